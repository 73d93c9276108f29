section
-- ===== PART A: goes FIRST, ahead of the names: the tables' words, and 'selects' of the private methods out of them =====
/-- a private method of a class that the tables say can be made, by its rows of tables_1 -/
def lw_okq (q : MethodName × Nat) : Prop := (q.1.cls ≠ "java/lang/invoke/MethodHandle" ∧ q.1.cls ≠ "java/lang/invoke/VarHandle") ∧ Cond.instantiable q.1.cls q.2 ∈ tables_1 ∧ Cond.privateMethod q.1 ∈ tables_1 ∧ Cond.instanceMethod q.1 ∈ tables_1
theorem lw_p0 : lw_okq (⟨"CheeseFirst$Reader", "cutUp", "()V"⟩, 9) := ⟨⟨by decide +kernel, by decide +kernel⟩, List.mem_of_getElem? (i := 82) (by decide +kernel), List.mem_of_getElem? (i := 365) (by decide +kernel), List.mem_of_getElem? (i := 366) (by decide +kernel)⟩
theorem lw_p1 : lw_okq (⟨"CheeseFirst$Reader", "endOfToken", "(I)I"⟩, 9) := ⟨⟨by decide +kernel, by decide +kernel⟩, List.mem_of_getElem? (i := 82) (by decide +kernel), List.mem_of_getElem? (i := 369) (by decide +kernel), List.mem_of_getElem? (i := 370) (by decide +kernel)⟩
theorem lw_p2 : lw_okq (⟨"CheeseFirst$Reader", "isBetween", "(ICC)Z"⟩, 9) := ⟨⟨by decide +kernel, by decide +kernel⟩, List.mem_of_getElem? (i := 82) (by decide +kernel), List.mem_of_getElem? (i := 373) (by decide +kernel), List.mem_of_getElem? (i := 374) (by decide +kernel)⟩
theorem lw_p3 : lw_okq (⟨"CheeseFirst$Reader", "tokenOf", "(II)I"⟩, 9) := ⟨⟨by decide +kernel, by decide +kernel⟩, List.mem_of_getElem? (i := 82) (by decide +kernel), List.mem_of_getElem? (i := 377) (by decide +kernel), List.mem_of_getElem? (i := 378) (by decide +kernel)⟩
theorem lw_p4 : lw_okq (⟨"CheeseFirst$Reader", "wordOf", "(II)I"⟩, 9) := ⟨⟨by decide +kernel, by decide +kernel⟩, List.mem_of_getElem? (i := 82) (by decide +kernel), List.mem_of_getElem? (i := 381) (by decide +kernel), List.mem_of_getElem? (i := 382) (by decide +kernel)⟩
theorem lw_p5 : lw_okq (⟨"CheeseFirst$Reader", "isWord", "(Ljava/lang/String;II)Z"⟩, 9) := ⟨⟨by decide +kernel, by decide +kernel⟩, List.mem_of_getElem? (i := 82) (by decide +kernel), List.mem_of_getElem? (i := 386) (by decide +kernel), List.mem_of_getElem? (i := 387) (by decide +kernel)⟩
theorem lw_p6 : lw_okq (⟨"CheeseFirst$Reader", "numberOf", "(II)I"⟩, 9) := ⟨⟨by decide +kernel, by decide +kernel⟩, List.mem_of_getElem? (i := 82) (by decide +kernel), List.mem_of_getElem? (i := 446) (by decide +kernel), List.mem_of_getElem? (i := 447) (by decide +kernel)⟩
theorem lw_p7 : lw_okq (⟨"CheeseFirst$Reader", "lookAt", "(I)V"⟩, 9) := ⟨⟨by decide +kernel, by decide +kernel⟩, List.mem_of_getElem? (i := 82) (by decide +kernel), List.mem_of_getElem? (i := 457) (by decide +kernel), List.mem_of_getElem? (i := 458) (by decide +kernel)⟩
theorem lw_p8 : lw_okq (⟨"CheeseFirst$Reader", "readItem", "(Z)Z"⟩, 9) := ⟨⟨by decide +kernel, by decide +kernel⟩, List.mem_of_getElem? (i := 82) (by decide +kernel), List.mem_of_getElem? (i := 461) (by decide +kernel), List.mem_of_getElem? (i := 462) (by decide +kernel)⟩
theorem lw_p9 : lw_okq (⟨"CheeseFirst$Reader", "readWeeks", "()Z"⟩, 9) := ⟨⟨by decide +kernel, by decide +kernel⟩, List.mem_of_getElem? (i := 82) (by decide +kernel), List.mem_of_getElem? (i := 465) (by decide +kernel), List.mem_of_getElem? (i := 466) (by decide +kernel)⟩
theorem lw_p10 : lw_okq (⟨"CheeseFirst$Reader", "isNumber", "(II)Z"⟩, 9) := ⟨⟨by decide +kernel, by decide +kernel⟩, List.mem_of_getElem? (i := 82) (by decide +kernel), List.mem_of_getElem? (i := 469) (by decide +kernel), List.mem_of_getElem? (i := 470) (by decide +kernel)⟩
theorem lw_p11 : lw_okq (⟨"CheeseFirst$Reader", "take", "(I)Z"⟩, 9) := ⟨⟨by decide +kernel, by decide +kernel⟩, List.mem_of_getElem? (i := 82) (by decide +kernel), List.mem_of_getElem? (i := 473) (by decide +kernel), List.mem_of_getElem? (i := 474) (by decide +kernel)⟩
theorem lw_p12 : lw_okq (⟨"CheeseFirst$Reader", "readSort", "()Z"⟩, 9) := ⟨⟨by decide +kernel, by decide +kernel⟩, List.mem_of_getElem? (i := 82) (by decide +kernel), List.mem_of_getElem? (i := 477) (by decide +kernel), List.mem_of_getElem? (i := 478) (by decide +kernel)⟩
theorem lw_p13 : lw_okq (⟨"CheeseFirst$Reader", "takeRow", "([IIII)Z"⟩, 9) := ⟨⟨by decide +kernel, by decide +kernel⟩, List.mem_of_getElem? (i := 82) (by decide +kernel), List.mem_of_getElem? (i := 481) (by decide +kernel), List.mem_of_getElem? (i := 482) (by decide +kernel)⟩
theorem lw_p14 : lw_okq (⟨"CheeseFirst$Reader", "readWheel", "()Z"⟩, 9) := ⟨⟨by decide +kernel, by decide +kernel⟩, List.mem_of_getElem? (i := 82) (by decide +kernel), List.mem_of_getElem? (i := 485) (by decide +kernel), List.mem_of_getElem? (i := 486) (by decide +kernel)⟩
theorem lw_p15 : lw_okq (⟨"CheeseFirst$Reader", "readOpen", "()Z"⟩, 9) := ⟨⟨by decide +kernel, by decide +kernel⟩, List.mem_of_getElem? (i := 82) (by decide +kernel), List.mem_of_getElem? (i := 489) (by decide +kernel), List.mem_of_getElem? (i := 490) (by decide +kernel)⟩
def lw_privs_1 : List (MethodName × Nat) := [(⟨"CheeseFirst$Reader", "cutUp", "()V"⟩, 9), (⟨"CheeseFirst$Reader", "endOfToken", "(I)I"⟩, 9), (⟨"CheeseFirst$Reader", "isBetween", "(ICC)Z"⟩, 9), (⟨"CheeseFirst$Reader", "tokenOf", "(II)I"⟩, 9), (⟨"CheeseFirst$Reader", "wordOf", "(II)I"⟩, 9), (⟨"CheeseFirst$Reader", "isWord", "(Ljava/lang/String;II)Z"⟩, 9), (⟨"CheeseFirst$Reader", "numberOf", "(II)I"⟩, 9), (⟨"CheeseFirst$Reader", "lookAt", "(I)V"⟩, 9), (⟨"CheeseFirst$Reader", "readItem", "(Z)Z"⟩, 9), (⟨"CheeseFirst$Reader", "readWeeks", "()Z"⟩, 9), (⟨"CheeseFirst$Reader", "isNumber", "(II)Z"⟩, 9), (⟨"CheeseFirst$Reader", "take", "(I)Z"⟩, 9), (⟨"CheeseFirst$Reader", "readSort", "()Z"⟩, 9), (⟨"CheeseFirst$Reader", "takeRow", "([IIII)Z"⟩, 9), (⟨"CheeseFirst$Reader", "readWheel", "()Z"⟩, 9), (⟨"CheeseFirst$Reader", "readOpen", "()Z"⟩, 9)]
theorem lw_r1 : ∀ q ∈ lw_privs_1, lw_okq q := List.forall_mem_cons.mpr ⟨lw_p0, List.forall_mem_cons.mpr ⟨lw_p1, List.forall_mem_cons.mpr ⟨lw_p2, List.forall_mem_cons.mpr ⟨lw_p3, List.forall_mem_cons.mpr ⟨lw_p4, List.forall_mem_cons.mpr ⟨lw_p5, List.forall_mem_cons.mpr ⟨lw_p6, List.forall_mem_cons.mpr ⟨lw_p7, List.forall_mem_cons.mpr ⟨lw_p8, List.forall_mem_cons.mpr ⟨lw_p9, List.forall_mem_cons.mpr ⟨lw_p10, List.forall_mem_cons.mpr ⟨lw_p11, List.forall_mem_cons.mpr ⟨lw_p12, List.forall_mem_cons.mpr ⟨lw_p13, List.forall_mem_cons.mpr ⟨lw_p14, List.forall_mem_cons.mpr ⟨lw_p15, fun _ h => absurd h List.not_mem_nil⟩⟩⟩⟩⟩⟩⟩⟩⟩⟩⟩⟩⟩⟩⟩⟩
theorem lw_p16 : lw_okq (⟨"CheeseFirst$Reader", "readOfWeek", "([II)Z"⟩, 9) := ⟨⟨by decide +kernel, by decide +kernel⟩, List.mem_of_getElem? (i := 82) (by decide +kernel), List.mem_of_getElem? (i := 493) (by decide +kernel), List.mem_of_getElem? (i := 494) (by decide +kernel)⟩
theorem lw_p17 : lw_okq (⟨"CheeseFirst", "actIfMay", "(I)I"⟩, 14) := ⟨⟨by decide +kernel, by decide +kernel⟩, List.mem_of_getElem? (i := 19) (by decide +kernel), List.mem_of_getElem? (i := 620) (by decide +kernel), List.mem_of_getElem? (i := 621) (by decide +kernel)⟩
theorem lw_p18 : lw_okq (⟨"CheeseFirst", "mayActNow", "()Z"⟩, 14) := ⟨⟨by decide +kernel, by decide +kernel⟩, List.mem_of_getElem? (i := 19) (by decide +kernel), List.mem_of_getElem? (i := 624) (by decide +kernel), List.mem_of_getElem? (i := 625) (by decide +kernel)⟩
theorem lw_p19 : lw_okq (⟨"CheeseFirst", "isOver", "()Z"⟩, 14) := ⟨⟨by decide +kernel, by decide +kernel⟩, List.mem_of_getElem? (i := 19) (by decide +kernel), List.mem_of_getElem? (i := 628) (by decide +kernel), List.mem_of_getElem? (i := 629) (by decide +kernel)⟩
theorem lw_p20 : lw_okq (⟨"CheeseFirst", "outlookBy", "(I)LCheeseFirst$Outlook;"⟩, 14) := ⟨⟨by decide +kernel, by decide +kernel⟩, List.mem_of_getElem? (i := 19) (by decide +kernel), List.mem_of_getElem? (i := 702) (by decide +kernel), List.mem_of_getElem? (i := 703) (by decide +kernel)⟩
theorem lw_p21 : lw_okq (⟨"CheeseFirst", "valueNow", "(LCheeseFirst$Outlook;)I"⟩, 14) := ⟨⟨by decide +kernel, by decide +kernel⟩, List.mem_of_getElem? (i := 19) (by decide +kernel), List.mem_of_getElem? (i := 710) (by decide +kernel), List.mem_of_getElem? (i := 711) (by decide +kernel)⟩
theorem lw_p22 : lw_okq (⟨"CheeseFirst$Outlook", "placeOf", "(II)I"⟩, 8) := ⟨⟨by decide +kernel, by decide +kernel⟩, List.mem_of_getElem? (i := 159) (by decide +kernel), List.mem_of_getElem? (i := 721) (by decide +kernel), List.mem_of_getElem? (i := 722) (by decide +kernel)⟩
theorem lw_p23 : lw_okq (⟨"CheeseFirst$Outlook", "isVoid", "(J)Z"⟩, 8) := ⟨⟨by decide +kernel, by decide +kernel⟩, List.mem_of_getElem? (i := 159) (by decide +kernel), List.mem_of_getElem? (i := 725) (by decide +kernel), List.mem_of_getElem? (i := 726) (by decide +kernel)⟩
theorem lw_p24 : lw_okq (⟨"CheeseFirst$Outlook", "mean", "(IIZ)I"⟩, 8) := ⟨⟨by decide +kernel, by decide +kernel⟩, List.mem_of_getElem? (i := 159) (by decide +kernel), List.mem_of_getElem? (i := 729) (by decide +kernel), List.mem_of_getElem? (i := 730) (by decide +kernel)⟩
theorem lw_p25 : lw_okq (⟨"CheeseFirst$Outlook", "planAt", "(II)I"⟩, 8) := ⟨⟨by decide +kernel, by decide +kernel⟩, List.mem_of_getElem? (i := 159) (by decide +kernel), List.mem_of_getElem? (i := 747) (by decide +kernel), List.mem_of_getElem? (i := 748) (by decide +kernel)⟩
theorem lw_p26 : lw_okq (⟨"CheeseFirst$Outlook", "bestPlan", "(II)I"⟩, 8) := ⟨⟨by decide +kernel, by decide +kernel⟩, List.mem_of_getElem? (i := 159) (by decide +kernel), List.mem_of_getElem? (i := 751) (by decide +kernel), List.mem_of_getElem? (i := 752) (by decide +kernel)⟩
theorem lw_p27 : lw_okq (⟨"CheeseFirst$Outlook", "standBehind", "(II)I"⟩, 8) := ⟨⟨by decide +kernel, by decide +kernel⟩, List.mem_of_getElem? (i := 159) (by decide +kernel), List.mem_of_getElem? (i := 761) (by decide +kernel), List.mem_of_getElem? (i := 762) (by decide +kernel)⟩
theorem lw_p28 : lw_okq (⟨"CheeseFirst$Outlook", "rulePlan", "(II)I"⟩, 8) := ⟨⟨by decide +kernel, by decide +kernel⟩, List.mem_of_getElem? (i := 159) (by decide +kernel), List.mem_of_getElem? (i := 769) (by decide +kernel), List.mem_of_getElem? (i := 770) (by decide +kernel)⟩
theorem lw_p29 : lw_okq (⟨"CheeseFirst$Outlook", "rankOf", "(II)I"⟩, 8) := ⟨⟨by decide +kernel, by decide +kernel⟩, List.mem_of_getElem? (i := 159) (by decide +kernel), List.mem_of_getElem? (i := 774) (by decide +kernel), List.mem_of_getElem? (i := 775) (by decide +kernel)⟩
theorem lw_p30 : lw_okq (⟨"CheeseFirst$Outlook", "stamped", "(I)J"⟩, 8) := ⟨⟨by decide +kernel, by decide +kernel⟩, List.mem_of_getElem? (i := 159) (by decide +kernel), List.mem_of_getElem? (i := 780) (by decide +kernel), List.mem_of_getElem? (i := 781) (by decide +kernel)⟩
theorem lw_p31 : lw_okq (⟨"CheeseFirst", "choiceNow", "(I)I"⟩, 14) := ⟨⟨by decide +kernel, by decide +kernel⟩, List.mem_of_getElem? (i := 19) (by decide +kernel), List.mem_of_getElem? (i := 804) (by decide +kernel), List.mem_of_getElem? (i := 805) (by decide +kernel)⟩
def lw_privs_2 : List (MethodName × Nat) := [(⟨"CheeseFirst$Reader", "readOfWeek", "([II)Z"⟩, 9), (⟨"CheeseFirst", "actIfMay", "(I)I"⟩, 14), (⟨"CheeseFirst", "mayActNow", "()Z"⟩, 14), (⟨"CheeseFirst", "isOver", "()Z"⟩, 14), (⟨"CheeseFirst", "outlookBy", "(I)LCheeseFirst$Outlook;"⟩, 14), (⟨"CheeseFirst", "valueNow", "(LCheeseFirst$Outlook;)I"⟩, 14), (⟨"CheeseFirst$Outlook", "placeOf", "(II)I"⟩, 8), (⟨"CheeseFirst$Outlook", "isVoid", "(J)Z"⟩, 8), (⟨"CheeseFirst$Outlook", "mean", "(IIZ)I"⟩, 8), (⟨"CheeseFirst$Outlook", "planAt", "(II)I"⟩, 8), (⟨"CheeseFirst$Outlook", "bestPlan", "(II)I"⟩, 8), (⟨"CheeseFirst$Outlook", "standBehind", "(II)I"⟩, 8), (⟨"CheeseFirst$Outlook", "rulePlan", "(II)I"⟩, 8), (⟨"CheeseFirst$Outlook", "rankOf", "(II)I"⟩, 8), (⟨"CheeseFirst$Outlook", "stamped", "(I)J"⟩, 8), (⟨"CheeseFirst", "choiceNow", "(I)I"⟩, 14)]
theorem lw_r2 : ∀ q ∈ lw_privs_2, lw_okq q := List.forall_mem_cons.mpr ⟨lw_p16, List.forall_mem_cons.mpr ⟨lw_p17, List.forall_mem_cons.mpr ⟨lw_p18, List.forall_mem_cons.mpr ⟨lw_p19, List.forall_mem_cons.mpr ⟨lw_p20, List.forall_mem_cons.mpr ⟨lw_p21, List.forall_mem_cons.mpr ⟨lw_p22, List.forall_mem_cons.mpr ⟨lw_p23, List.forall_mem_cons.mpr ⟨lw_p24, List.forall_mem_cons.mpr ⟨lw_p25, List.forall_mem_cons.mpr ⟨lw_p26, List.forall_mem_cons.mpr ⟨lw_p27, List.forall_mem_cons.mpr ⟨lw_p28, List.forall_mem_cons.mpr ⟨lw_p29, List.forall_mem_cons.mpr ⟨lw_p30, List.forall_mem_cons.mpr ⟨lw_p31, fun _ h => absurd h List.not_mem_nil⟩⟩⟩⟩⟩⟩⟩⟩⟩⟩⟩⟩⟩⟩⟩⟩
theorem lw_p32 : lw_okq (⟨"CheeseFirst$BlindRow", "tellMeans", "(I)V"⟩, 16) := ⟨⟨by decide +kernel, by decide +kernel⟩, List.mem_of_getElem? (i := 191) (by decide +kernel), List.mem_of_getElem? (i := 829) (by decide +kernel), List.mem_of_getElem? (i := 830) (by decide +kernel)⟩
theorem lw_p33 : lw_okq (⟨"CheeseFirst$BlindRow", "tellMeansOfCut", "(IIZ)V"⟩, 16) := ⟨⟨by decide +kernel, by decide +kernel⟩, List.mem_of_getElem? (i := 191) (by decide +kernel), List.mem_of_getElem? (i := 838) (by decide +kernel), List.mem_of_getElem? (i := 839) (by decide +kernel)⟩
theorem lw_p34 : lw_okq (⟨"CheeseFirst$BlindRow", "tellMost", "()V"⟩, 16) := ⟨⟨by decide +kernel, by decide +kernel⟩, List.mem_of_getElem? (i := 191) (by decide +kernel), List.mem_of_getElem? (i := 867) (by decide +kernel), List.mem_of_getElem? (i := 868) (by decide +kernel)⟩
theorem lw_p35 : lw_okq (⟨"CheeseFirst$BlindRow", "meanAt", "(III)I"⟩, 16) := ⟨⟨by decide +kernel, by decide +kernel⟩, List.mem_of_getElem? (i := 191) (by decide +kernel), List.mem_of_getElem? (i := 871) (by decide +kernel), List.mem_of_getElem? (i := 872) (by decide +kernel)⟩
theorem lw_p36 : lw_okq (⟨"CheeseFirst$BlindRow", "search", "(III)V"⟩, 16) := ⟨⟨by decide +kernel, by decide +kernel⟩, List.mem_of_getElem? (i := 191) (by decide +kernel), List.mem_of_getElem? (i := 875) (by decide +kernel), List.mem_of_getElem? (i := 876) (by decide +kernel)⟩
theorem lw_p37 : lw_okq (⟨"CheeseFirst$BlindRow", "takeIfBetter", "(I)V"⟩, 16) := ⟨⟨by decide +kernel, by decide +kernel⟩, List.mem_of_getElem? (i := 191) (by decide +kernel), List.mem_of_getElem? (i := 879) (by decide +kernel), List.mem_of_getElem? (i := 880) (by decide +kernel)⟩
theorem lw_p38 : lw_okq (⟨"CheeseFirst$BlindRow", "tellRow", "(II)V"⟩, 16) := ⟨⟨by decide +kernel, by decide +kernel⟩, List.mem_of_getElem? (i := 191) (by decide +kernel), List.mem_of_getElem? (i := 885) (by decide +kernel), List.mem_of_getElem? (i := 886) (by decide +kernel)⟩
theorem lw_p39 : lw_okq (⟨"CheeseFirst$Thought", "takeTrial", "()I"⟩, 4) := ⟨⟨by decide +kernel, by decide +kernel⟩, List.mem_of_getElem? (i := 260) (by decide +kernel), List.mem_of_getElem? (i := 937) (by decide +kernel), List.mem_of_getElem? (i := 938) (by decide +kernel)⟩
theorem lw_p40 : lw_okq (⟨"CheeseFirst$Notes", "asRule", "(II)I"⟩, 2) := ⟨⟨by decide +kernel, by decide +kernel⟩, List.mem_of_getElem? (i := 286) (by decide +kernel), List.mem_of_getElem? (i := 987) (by decide +kernel), List.mem_of_getElem? (i := 988) (by decide +kernel)⟩
theorem lw_p41 : lw_okq (⟨"CheeseFirst$Notes", "asOld", "(II)I"⟩, 2) := ⟨⟨by decide +kernel, by decide +kernel⟩, List.mem_of_getElem? (i := 286) (by decide +kernel), List.mem_of_getElem? (i := 992) (by decide +kernel), List.mem_of_getElem? (i := 993) (by decide +kernel)⟩
theorem lw_p42 : lw_okq (⟨"CheeseFirst$Notes", "asBest", "(II)I"⟩, 2) := ⟨⟨by decide +kernel, by decide +kernel⟩, List.mem_of_getElem? (i := 286) (by decide +kernel), List.mem_of_getElem? (i := 998) (by decide +kernel), List.mem_of_getElem? (i := 999) (by decide +kernel)⟩
theorem lw_p43 : lw_okq (⟨"CheeseFirst$Notes", "asLook", "(II)I"⟩, 2) := ⟨⟨by decide +kernel, by decide +kernel⟩, List.mem_of_getElem? (i := 286) (by decide +kernel), List.mem_of_getElem? (i := 1004) (by decide +kernel), List.mem_of_getElem? (i := 1005) (by decide +kernel)⟩
theorem lw_p44 : lw_okq (⟨"CheeseFirst$Notes", "asSave", "(II)I"⟩, 2) := ⟨⟨by decide +kernel, by decide +kernel⟩, List.mem_of_getElem? (i := 286) (by decide +kernel), List.mem_of_getElem? (i := 1011) (by decide +kernel), List.mem_of_getElem? (i := 1012) (by decide +kernel)⟩
theorem lw_p45 : lw_okq (⟨"CheeseFirst$Notes", "asWorst", "(II)I"⟩, 2) := ⟨⟨by decide +kernel, by decide +kernel⟩, List.mem_of_getElem? (i := 286) (by decide +kernel), List.mem_of_getElem? (i := 1016) (by decide +kernel), List.mem_of_getElem? (i := 1017) (by decide +kernel)⟩
theorem lw_p46 : lw_okq (⟨"CheeseFirst", "imageOf", "(I)LCheeseFirst$Winter;"⟩, 14) := ⟨⟨by decide +kernel, by decide +kernel⟩, List.mem_of_getElem? (i := 19) (by decide +kernel), List.mem_of_getElem? (i := 1026) (by decide +kernel), List.mem_of_getElem? (i := 1027) (by decide +kernel)⟩
theorem lw_p47 : lw_okq (⟨"CheeseFirstModel", "read", "()V"⟩, 38) := ⟨⟨by decide +kernel, by decide +kernel⟩, List.mem_of_getElem? (i := 1046) (by decide +kernel), List.mem_of_getElem? (i := 1184) (by decide +kernel), List.mem_of_getElem? (i := 1185) (by decide +kernel)⟩
def lw_privs_3 : List (MethodName × Nat) := [(⟨"CheeseFirst$BlindRow", "tellMeans", "(I)V"⟩, 16), (⟨"CheeseFirst$BlindRow", "tellMeansOfCut", "(IIZ)V"⟩, 16), (⟨"CheeseFirst$BlindRow", "tellMost", "()V"⟩, 16), (⟨"CheeseFirst$BlindRow", "meanAt", "(III)I"⟩, 16), (⟨"CheeseFirst$BlindRow", "search", "(III)V"⟩, 16), (⟨"CheeseFirst$BlindRow", "takeIfBetter", "(I)V"⟩, 16), (⟨"CheeseFirst$BlindRow", "tellRow", "(II)V"⟩, 16), (⟨"CheeseFirst$Thought", "takeTrial", "()I"⟩, 4), (⟨"CheeseFirst$Notes", "asRule", "(II)I"⟩, 2), (⟨"CheeseFirst$Notes", "asOld", "(II)I"⟩, 2), (⟨"CheeseFirst$Notes", "asBest", "(II)I"⟩, 2), (⟨"CheeseFirst$Notes", "asLook", "(II)I"⟩, 2), (⟨"CheeseFirst$Notes", "asSave", "(II)I"⟩, 2), (⟨"CheeseFirst$Notes", "asWorst", "(II)I"⟩, 2), (⟨"CheeseFirst", "imageOf", "(I)LCheeseFirst$Winter;"⟩, 14), (⟨"CheeseFirstModel", "read", "()V"⟩, 38)]
theorem lw_r3 : ∀ q ∈ lw_privs_3, lw_okq q := List.forall_mem_cons.mpr ⟨lw_p32, List.forall_mem_cons.mpr ⟨lw_p33, List.forall_mem_cons.mpr ⟨lw_p34, List.forall_mem_cons.mpr ⟨lw_p35, List.forall_mem_cons.mpr ⟨lw_p36, List.forall_mem_cons.mpr ⟨lw_p37, List.forall_mem_cons.mpr ⟨lw_p38, List.forall_mem_cons.mpr ⟨lw_p39, List.forall_mem_cons.mpr ⟨lw_p40, List.forall_mem_cons.mpr ⟨lw_p41, List.forall_mem_cons.mpr ⟨lw_p42, List.forall_mem_cons.mpr ⟨lw_p43, List.forall_mem_cons.mpr ⟨lw_p44, List.forall_mem_cons.mpr ⟨lw_p45, List.forall_mem_cons.mpr ⟨lw_p46, List.forall_mem_cons.mpr ⟨lw_p47, fun _ h => absurd h List.not_mem_nil⟩⟩⟩⟩⟩⟩⟩⟩⟩⟩⟩⟩⟩⟩⟩⟩
theorem lw_p48 : lw_okq (⟨"CheeseFirstModel", "here", "()I"⟩, 38) := ⟨⟨by decide +kernel, by decide +kernel⟩, List.mem_of_getElem? (i := 1046) (by decide +kernel), List.mem_of_getElem? (i := 1188) (by decide +kernel), List.mem_of_getElem? (i := 1189) (by decide +kernel)⟩
theorem lw_p49 : lw_okq (⟨"CheeseFirstModel", "item", "(II)V"⟩, 38) := ⟨⟨by decide +kernel, by decide +kernel⟩, List.mem_of_getElem? (i := 1046) (by decide +kernel), List.mem_of_getElem? (i := 1195) (by decide +kernel), List.mem_of_getElem? (i := 1196) (by decide +kernel)⟩
theorem lw_p50 : lw_okq (⟨"CheeseFirstModel", "due", "(Z)I"⟩, 38) := ⟨⟨by decide +kernel, by decide +kernel⟩, List.mem_of_getElem? (i := 1046) (by decide +kernel), List.mem_of_getElem? (i := 1199) (by decide +kernel), List.mem_of_getElem? (i := 1200) (by decide +kernel)⟩
theorem lw_p51 : lw_okq (⟨"CheeseFirstModel", "number", "(II)I"⟩, 38) := ⟨⟨by decide +kernel, by decide +kernel⟩, List.mem_of_getElem? (i := 1046) (by decide +kernel), List.mem_of_getElem? (i := 1203) (by decide +kernel), List.mem_of_getElem? (i := 1204) (by decide +kernel)⟩
theorem lw_p52 : lw_okq (⟨"CheeseFirstModel", "readSort", "()V"⟩, 38) := ⟨⟨by decide +kernel, by decide +kernel⟩, List.mem_of_getElem? (i := 1046) (by decide +kernel), List.mem_of_getElem? (i := 1207) (by decide +kernel), List.mem_of_getElem? (i := 1208) (by decide +kernel)⟩
theorem lw_p53 : lw_okq (⟨"CheeseFirstModel", "begin", "()V"⟩, 38) := ⟨⟨by decide +kernel, by decide +kernel⟩, List.mem_of_getElem? (i := 1046) (by decide +kernel), List.mem_of_getElem? (i := 1211) (by decide +kernel), List.mem_of_getElem? (i := 1212) (by decide +kernel)⟩
theorem lw_p54 : lw_okq (⟨"CheeseFirstModel", "think", "(I)V"⟩, 38) := ⟨⟨by decide +kernel, by decide +kernel⟩, List.mem_of_getElem? (i := 1046) (by decide +kernel), List.mem_of_getElem? (i := 1215) (by decide +kernel), List.mem_of_getElem? (i := 1216) (by decide +kernel)⟩
theorem lw_p55 : lw_okq (⟨"CheeseFirstModel", "isWheel", "(I)Z"⟩, 38) := ⟨⟨by decide +kernel, by decide +kernel⟩, List.mem_of_getElem? (i := 1046) (by decide +kernel), List.mem_of_getElem? (i := 1227) (by decide +kernel), List.mem_of_getElem? (i := 1228) (by decide +kernel)⟩
theorem lw_p56 : lw_okq (⟨"CheeseFirstModel", "goodOf", "(II)I"⟩, 38) := ⟨⟨by decide +kernel, by decide +kernel⟩, List.mem_of_getElem? (i := 1046) (by decide +kernel), List.mem_of_getElem? (i := 1231) (by decide +kernel), List.mem_of_getElem? (i := 1232) (by decide +kernel)⟩
theorem lw_p57 : lw_okq (⟨"CheeseFirstModel", "goes", "(IIII)I"⟩, 38) := ⟨⟨by decide +kernel, by decide +kernel⟩, List.mem_of_getElem? (i := 1046) (by decide +kernel), List.mem_of_getElem? (i := 1235) (by decide +kernel), List.mem_of_getElem? (i := 1236) (by decide +kernel)⟩
theorem lw_p58 : lw_okq (⟨"CheeseFirstModel", "warmth", "(I)I"⟩, 38) := ⟨⟨by decide +kernel, by decide +kernel⟩, List.mem_of_getElem? (i := 1046) (by decide +kernel), List.mem_of_getElem? (i := 1239) (by decide +kernel), List.mem_of_getElem? (i := 1240) (by decide +kernel)⟩
theorem lw_p59 : lw_okq (⟨"CheeseFirstModel", "isOver", "()Z"⟩, 38) := ⟨⟨by decide +kernel, by decide +kernel⟩, List.mem_of_getElem? (i := 1046) (by decide +kernel), List.mem_of_getElem? (i := 1255) (by decide +kernel), List.mem_of_getElem? (i := 1256) (by decide +kernel)⟩
theorem lw_p60 : lw_okq (⟨"CheeseFirstModel", "stateNow", "()I"⟩, 38) := ⟨⟨by decide +kernel, by decide +kernel⟩, List.mem_of_getElem? (i := 1046) (by decide +kernel), List.mem_of_getElem? (i := 1259) (by decide +kernel), List.mem_of_getElem? (i := 1260) (by decide +kernel)⟩
theorem lw_p61 : lw_okq (⟨"CheeseFirstModel", "mayEat", "(II)Z"⟩, 38) := ⟨⟨by decide +kernel, by decide +kernel⟩, List.mem_of_getElem? (i := 1046) (by decide +kernel), List.mem_of_getElem? (i := 1263) (by decide +kernel), List.mem_of_getElem? (i := 1264) (by decide +kernel)⟩
theorem lw_p62 : lw_okq (⟨"CheeseFirstModel", "isOpenIn", "(II)Z"⟩, 38) := ⟨⟨by decide +kernel, by decide +kernel⟩, List.mem_of_getElem? (i := 1046) (by decide +kernel), List.mem_of_getElem? (i := 1270) (by decide +kernel), List.mem_of_getElem? (i := 1271) (by decide +kernel)⟩
theorem lw_p63 : lw_okq (⟨"CheeseFirstModel", "maySell", "(II)Z"⟩, 38) := ⟨⟨by decide +kernel, by decide +kernel⟩, List.mem_of_getElem? (i := 1046) (by decide +kernel), List.mem_of_getElem? (i := 1278) (by decide +kernel), List.mem_of_getElem? (i := 1279) (by decide +kernel)⟩
def lw_privs_4 : List (MethodName × Nat) := [(⟨"CheeseFirstModel", "here", "()I"⟩, 38), (⟨"CheeseFirstModel", "item", "(II)V"⟩, 38), (⟨"CheeseFirstModel", "due", "(Z)I"⟩, 38), (⟨"CheeseFirstModel", "number", "(II)I"⟩, 38), (⟨"CheeseFirstModel", "readSort", "()V"⟩, 38), (⟨"CheeseFirstModel", "begin", "()V"⟩, 38), (⟨"CheeseFirstModel", "think", "(I)V"⟩, 38), (⟨"CheeseFirstModel", "isWheel", "(I)Z"⟩, 38), (⟨"CheeseFirstModel", "goodOf", "(II)I"⟩, 38), (⟨"CheeseFirstModel", "goes", "(IIII)I"⟩, 38), (⟨"CheeseFirstModel", "warmth", "(I)I"⟩, 38), (⟨"CheeseFirstModel", "isOver", "()Z"⟩, 38), (⟨"CheeseFirstModel", "stateNow", "()I"⟩, 38), (⟨"CheeseFirstModel", "mayEat", "(II)Z"⟩, 38), (⟨"CheeseFirstModel", "isOpenIn", "(II)Z"⟩, 38), (⟨"CheeseFirstModel", "maySell", "(II)Z"⟩, 38)]
theorem lw_r4 : ∀ q ∈ lw_privs_4, lw_okq q := List.forall_mem_cons.mpr ⟨lw_p48, List.forall_mem_cons.mpr ⟨lw_p49, List.forall_mem_cons.mpr ⟨lw_p50, List.forall_mem_cons.mpr ⟨lw_p51, List.forall_mem_cons.mpr ⟨lw_p52, List.forall_mem_cons.mpr ⟨lw_p53, List.forall_mem_cons.mpr ⟨lw_p54, List.forall_mem_cons.mpr ⟨lw_p55, List.forall_mem_cons.mpr ⟨lw_p56, List.forall_mem_cons.mpr ⟨lw_p57, List.forall_mem_cons.mpr ⟨lw_p58, List.forall_mem_cons.mpr ⟨lw_p59, List.forall_mem_cons.mpr ⟨lw_p60, List.forall_mem_cons.mpr ⟨lw_p61, List.forall_mem_cons.mpr ⟨lw_p62, List.forall_mem_cons.mpr ⟨lw_p63, fun _ h => absurd h List.not_mem_nil⟩⟩⟩⟩⟩⟩⟩⟩⟩⟩⟩⟩⟩⟩⟩⟩
theorem lw_p64 : lw_okq (⟨"CheeseFirstModel", "goNext", "()I"⟩, 38) := ⟨⟨by decide +kernel, by decide +kernel⟩, List.mem_of_getElem? (i := 1046) (by decide +kernel), List.mem_of_getElem? (i := 1290) (by decide +kernel), List.mem_of_getElem? (i := 1291) (by decide +kernel)⟩
theorem lw_p65 : lw_okq (⟨"CheeseFirstModel", "valueNow", "(I)I"⟩, 38) := ⟨⟨by decide +kernel, by decide +kernel⟩, List.mem_of_getElem? (i := 1046) (by decide +kernel), List.mem_of_getElem? (i := 1310) (by decide +kernel), List.mem_of_getElem? (i := 1311) (by decide +kernel)⟩
theorem lw_p66 : lw_okq (⟨"CheeseFirstModel", "chooseNow", "(I)I"⟩, 38) := ⟨⟨by decide +kernel, by decide +kernel⟩, List.mem_of_getElem? (i := 1046) (by decide +kernel), List.mem_of_getElem? (i := 1314) (by decide +kernel), List.mem_of_getElem? (i := 1315) (by decide +kernel)⟩
theorem lw_p67 : lw_okq (⟨"CheeseFirstModel", "work", "(II)V"⟩, 38) := ⟨⟨by decide +kernel, by decide +kernel⟩, List.mem_of_getElem? (i := 1046) (by decide +kernel), List.mem_of_getElem? (i := 1318) (by decide +kernel), List.mem_of_getElem? (i := 1319) (by decide +kernel)⟩
theorem lw_p68 : lw_okq (⟨"CheeseFirstModel", "isState", "(I)Z"⟩, 38) := ⟨⟨by decide +kernel, by decide +kernel⟩, List.mem_of_getElem? (i := 1046) (by decide +kernel), List.mem_of_getElem? (i := 1322) (by decide +kernel), List.mem_of_getElem? (i := 1323) (by decide +kernel)⟩
theorem lw_p69 : lw_okq (⟨"CheeseFirstModel", "choose", "(III)I"⟩, 38) := ⟨⟨by decide +kernel, by decide +kernel⟩, List.mem_of_getElem? (i := 1046) (by decide +kernel), List.mem_of_getElem? (i := 1326) (by decide +kernel), List.mem_of_getElem? (i := 1327) (by decide +kernel)⟩
theorem lw_p70 : lw_okq (⟨"CheeseFirstModel", "mayDo", "(II)Z"⟩, 38) := ⟨⟨by decide +kernel, by decide +kernel⟩, List.mem_of_getElem? (i := 1046) (by decide +kernel), List.mem_of_getElem? (i := 1330) (by decide +kernel), List.mem_of_getElem? (i := 1331) (by decide +kernel)⟩
theorem lw_p71 : lw_okq (⟨"CheeseFirstModel", "bringsBy", "(III)I"⟩, 38) := ⟨⟨by decide +kernel, by decide +kernel⟩, List.mem_of_getElem? (i := 1046) (by decide +kernel), List.mem_of_getElem? (i := 1334) (by decide +kernel), List.mem_of_getElem? (i := 1335) (by decide +kernel)⟩
theorem lw_p72 : lw_okq (⟨"CheeseFirstModel", "hadBy", "(III)I"⟩, 38) := ⟨⟨by decide +kernel, by decide +kernel⟩, List.mem_of_getElem? (i := 1046) (by decide +kernel), List.mem_of_getElem? (i := 1338) (by decide +kernel), List.mem_of_getElem? (i := 1339) (by decide +kernel)⟩
theorem lw_p73 : lw_okq (⟨"CheeseFirstModel", "behind", "(II)I"⟩, 38) := ⟨⟨by decide +kernel, by decide +kernel⟩, List.mem_of_getElem? (i := 1046) (by decide +kernel), List.mem_of_getElem? (i := 1342) (by decide +kernel), List.mem_of_getElem? (i := 1343) (by decide +kernel)⟩
theorem lw_p74 : lw_okq (⟨"CheeseFirstModel", "meanOf", "(IIZ)I"⟩, 38) := ⟨⟨by decide +kernel, by decide +kernel⟩, List.mem_of_getElem? (i := 1046) (by decide +kernel), List.mem_of_getElem? (i := 1346) (by decide +kernel), List.mem_of_getElem? (i := 1347) (by decide +kernel)⟩
theorem lw_p75 : lw_okq (⟨"CheeseFirstModel", "tenths", "(III)I"⟩, 38) := ⟨⟨by decide +kernel, by decide +kernel⟩, List.mem_of_getElem? (i := 1046) (by decide +kernel), List.mem_of_getElem? (i := 1350) (by decide +kernel), List.mem_of_getElem? (i := 1351) (by decide +kernel)⟩
theorem lw_p76 : lw_okq (⟨"CheeseFirstModel", "firstWeek", "()I"⟩, 38) := ⟨⟨by decide +kernel, by decide +kernel⟩, List.mem_of_getElem? (i := 1046) (by decide +kernel), List.mem_of_getElem? (i := 1379) (by decide +kernel), List.mem_of_getElem? (i := 1380) (by decide +kernel)⟩
theorem lw_p77 : lw_okq (⟨"CheeseFirstModel", "findRow", "()I"⟩, 38) := ⟨⟨by decide +kernel, by decide +kernel⟩, List.mem_of_getElem? (i := 1046) (by decide +kernel), List.mem_of_getElem? (i := 1383) (by decide +kernel), List.mem_of_getElem? (i := 1384) (by decide +kernel)⟩
theorem lw_p78 : lw_okq (⟨"CheeseFirstModel", "gainOf", "(III)I"⟩, 38) := ⟨⟨by decide +kernel, by decide +kernel⟩, List.mem_of_getElem? (i := 1046) (by decide +kernel), List.mem_of_getElem? (i := 1387) (by decide +kernel), List.mem_of_getElem? (i := 1388) (by decide +kernel)⟩
theorem lw_p79 : lw_okq (⟨"CheeseFirstModel", "age", "(IZI)V"⟩, 38) := ⟨⟨by decide +kernel, by decide +kernel⟩, List.mem_of_getElem? (i := 1046) (by decide +kernel), List.mem_of_getElem? (i := 1391) (by decide +kernel), List.mem_of_getElem? (i := 1392) (by decide +kernel)⟩
def lw_privs_5 : List (MethodName × Nat) := [(⟨"CheeseFirstModel", "goNext", "()I"⟩, 38), (⟨"CheeseFirstModel", "valueNow", "(I)I"⟩, 38), (⟨"CheeseFirstModel", "chooseNow", "(I)I"⟩, 38), (⟨"CheeseFirstModel", "work", "(II)V"⟩, 38), (⟨"CheeseFirstModel", "isState", "(I)Z"⟩, 38), (⟨"CheeseFirstModel", "choose", "(III)I"⟩, 38), (⟨"CheeseFirstModel", "mayDo", "(II)Z"⟩, 38), (⟨"CheeseFirstModel", "bringsBy", "(III)I"⟩, 38), (⟨"CheeseFirstModel", "hadBy", "(III)I"⟩, 38), (⟨"CheeseFirstModel", "behind", "(II)I"⟩, 38), (⟨"CheeseFirstModel", "meanOf", "(IIZ)I"⟩, 38), (⟨"CheeseFirstModel", "tenths", "(III)I"⟩, 38), (⟨"CheeseFirstModel", "firstWeek", "()I"⟩, 38), (⟨"CheeseFirstModel", "findRow", "()I"⟩, 38), (⟨"CheeseFirstModel", "gainOf", "(III)I"⟩, 38), (⟨"CheeseFirstModel", "age", "(IZI)V"⟩, 38)]
theorem lw_r5 : ∀ q ∈ lw_privs_5, lw_okq q := List.forall_mem_cons.mpr ⟨lw_p64, List.forall_mem_cons.mpr ⟨lw_p65, List.forall_mem_cons.mpr ⟨lw_p66, List.forall_mem_cons.mpr ⟨lw_p67, List.forall_mem_cons.mpr ⟨lw_p68, List.forall_mem_cons.mpr ⟨lw_p69, List.forall_mem_cons.mpr ⟨lw_p70, List.forall_mem_cons.mpr ⟨lw_p71, List.forall_mem_cons.mpr ⟨lw_p72, List.forall_mem_cons.mpr ⟨lw_p73, List.forall_mem_cons.mpr ⟨lw_p74, List.forall_mem_cons.mpr ⟨lw_p75, List.forall_mem_cons.mpr ⟨lw_p76, List.forall_mem_cons.mpr ⟨lw_p77, List.forall_mem_cons.mpr ⟨lw_p78, List.forall_mem_cons.mpr ⟨lw_p79, fun _ h => absurd h List.not_mem_nil⟩⟩⟩⟩⟩⟩⟩⟩⟩⟩⟩⟩⟩⟩⟩⟩
theorem lw_p80 : lw_okq (⟨"CheeseFirstModel", "undo", "(II)I"⟩, 38) := ⟨⟨by decide +kernel, by decide +kernel⟩, List.mem_of_getElem? (i := 1046) (by decide +kernel), List.mem_of_getElem? (i := 1396) (by decide +kernel), List.mem_of_getElem? (i := 1397) (by decide +kernel)⟩
theorem lw_p81 : lw_okq (⟨"CheeseFirstModel", "gainIn", "(II)I"⟩, 38) := ⟨⟨by decide +kernel, by decide +kernel⟩, List.mem_of_getElem? (i := 1046) (by decide +kernel), List.mem_of_getElem? (i := 1400) (by decide +kernel), List.mem_of_getElem? (i := 1401) (by decide +kernel)⟩
theorem lw_p82 : lw_okq (⟨"CheeseFirstModel", "mayBlind", "(I)Z"⟩, 38) := ⟨⟨by decide +kernel, by decide +kernel⟩, List.mem_of_getElem? (i := 1046) (by decide +kernel), List.mem_of_getElem? (i := 1404) (by decide +kernel), List.mem_of_getElem? (i := 1405) (by decide +kernel)⟩
theorem lw_p83 : lw_okq (⟨"CheeseFirstModel", "eatBlind", "(II)I"⟩, 38) := ⟨⟨by decide +kernel, by decide +kernel⟩, List.mem_of_getElem? (i := 1046) (by decide +kernel), List.mem_of_getElem? (i := 1408) (by decide +kernel), List.mem_of_getElem? (i := 1409) (by decide +kernel)⟩
theorem lw_p84 : lw_okq (⟨"CheeseFirstModel", "blindNow", "()I"⟩, 38) := ⟨⟨by decide +kernel, by decide +kernel⟩, List.mem_of_getElem? (i := 1046) (by decide +kernel), List.mem_of_getElem? (i := 1416) (by decide +kernel), List.mem_of_getElem? (i := 1417) (by decide +kernel)⟩
theorem lw_p85 : lw_okq (⟨"CheeseFirstModel", "settle", "()I"⟩, 38) := ⟨⟨by decide +kernel, by decide +kernel⟩, List.mem_of_getElem? (i := 1046) (by decide +kernel), List.mem_of_getElem? (i := 1443) (by decide +kernel), List.mem_of_getElem? (i := 1444) (by decide +kernel)⟩
theorem lw_p86 : lw_okq (⟨"CheeseFirstModel", "copy", "(II)V"⟩, 38) := ⟨⟨by decide +kernel, by decide +kernel⟩, List.mem_of_getElem? (i := 1046) (by decide +kernel), List.mem_of_getElem? (i := 1469) (by decide +kernel), List.mem_of_getElem? (i := 1470) (by decide +kernel)⟩
def lw_privs_6 : List (MethodName × Nat) := [(⟨"CheeseFirstModel", "undo", "(II)I"⟩, 38), (⟨"CheeseFirstModel", "gainIn", "(II)I"⟩, 38), (⟨"CheeseFirstModel", "mayBlind", "(I)Z"⟩, 38), (⟨"CheeseFirstModel", "eatBlind", "(II)I"⟩, 38), (⟨"CheeseFirstModel", "blindNow", "()I"⟩, 38), (⟨"CheeseFirstModel", "settle", "()I"⟩, 38), (⟨"CheeseFirstModel", "copy", "(II)V"⟩, 38)]
theorem lw_r6 : ∀ q ∈ lw_privs_6, lw_okq q := List.forall_mem_cons.mpr ⟨lw_p80, List.forall_mem_cons.mpr ⟨lw_p81, List.forall_mem_cons.mpr ⟨lw_p82, List.forall_mem_cons.mpr ⟨lw_p83, List.forall_mem_cons.mpr ⟨lw_p84, List.forall_mem_cons.mpr ⟨lw_p85, List.forall_mem_cons.mpr ⟨lw_p86, fun _ h => absurd h List.not_mem_nil⟩⟩⟩⟩⟩⟩⟩
def lw_privs : List (MethodName × Nat) := lw_privs_1 ++ (lw_privs_2 ++ (lw_privs_3 ++ (lw_privs_4 ++ (lw_privs_5 ++ (lw_privs_6)))))
def lw_tbl : List Cond := k2_sels lw_privs ++ tables_1
theorem lw_privs_ok : ∀ q ∈ lw_privs, lw_okq q := by
  show ∀ q ∈ lw_privs_1 ++ (lw_privs_2 ++ (lw_privs_3 ++ (lw_privs_4 ++ (lw_privs_5 ++ (lw_privs_6))))), lw_okq q
  exact List.forall_mem_append.mpr ⟨lw_r1, List.forall_mem_append.mpr ⟨lw_r2, List.forall_mem_append.mpr ⟨lw_r3, List.forall_mem_append.mpr ⟨lw_r4, List.forall_mem_append.mpr ⟨lw_r5, lw_r6⟩⟩⟩⟩⟩
end
section
/-! ===== BEGIN words of one list among another's, by their places ===== -/
theorem goodIn_r {big : List Cond} (ws : List Cond) (ps : List Nat) (hp : ws = ps.filterMap (fun i => big[i]?)) (h : ws.all goodWord = true) : GoodIn big ws := by
  intro w hw
  have h1 := List.all_eq_true.mp h w hw
  rw [hp] at hw
  obtain ⟨i, -, hi⟩ := List.mem_filterMap.mp hw
  have hm : w ∈ big := by first | exact List.mem_of_getElem? hi | exact List.getElem?_mem hi
  exact ⟨hm, good_of_word h1⟩
theorem goodIn_app {big a b : List Cond} (ha : GoodIn big a) (hb : GoodIn big b) : GoodIn big (a ++ b) := fun w h => (List.mem_append.mp h).elim (ha w) (hb w)
theorem goodIn_ca {big a b : List Cond} {c : Cond} (ha : GoodIn big (c :: a)) (hb : GoodIn big b) : GoodIn big (c :: (a ++ b)) := fun w h => (List.mem_cons.mp h).elim (fun e => ha w (List.mem_cons.mpr (Or.inl e))) (fun h => (List.mem_append.mp h).elim (fun h => ha w (List.mem_cons.mpr (Or.inr h))) (hb w))
theorem goodIn_sub {big ws : List Cond} (hm : ∀ w ∈ ws, w ∈ big) (h : ws.all goodWord = true) : GoodIn big ws := fun w hw => ⟨hm w hw, good_of_word (List.all_eq_true.mp h w hw)⟩
/-! ===== END ===== -/

def RX0 : String := "CheeseFirst$BlindRow"
def TX0 : u_T := fun k => match k with
  | 0 => ("CheeseFirst$BlindRow", "cellar", "LCheeseFirst$Cellar;", true)
  | 1 => ("CheeseFirst$BlindRow", "whole", "LCheeseFirst$Spread;", true)
  | 2 => ("CheeseFirst$BlindRow", "cut", "LCheeseFirst$Spread;", true)
  | 3 => ("CheeseFirst$BlindRow", "means", "[I", true)
  | 4 => ("CheeseFirst$BlindRow", "mostFrom", "[I", true)
  | 5 => ("CheeseFirst$BlindRow", "cutIn", "[I", true)
  | 6 => ("CheeseFirst$BlindRow", "row", "[I", true)
  | 7 => ("CheeseFirst$BlindRow", "bestRow", "[I", true)
  | 8 => ("CheeseFirst$BlindRow", "best", "I", false)
  | 9 => ("CheeseFirst$BlindRow", "length", "I", false)
  | 10 => ("CheeseFirst$BlindRow", "start", "I", false)
  | 11 => ("CheeseFirst$BlindRow", "known", "Z", false)
  | 12 => ("CheeseFirst$BlindRow", "knownWeek", "I", false)
  | 13 => ("CheeseFirst$BlindRow", "knownActed", "Z", false)
  | 14 => ("CheeseFirst$BlindRow", "knownStand", "I", false)
  | _ => ("CheeseFirst$BlindRow", "knownStopped", "I", false)
def tyX0 : Nat → FieldType := fun k => match k with
  | 0 => .object "CheeseFirst$Cellar"
  | 1 => .object "CheeseFirst$Spread"
  | 2 => .object "CheeseFirst$Spread"
  | 3 => .array .int
  | 4 => .array .int
  | 5 => .array .int
  | 6 => .array .int
  | 7 => .array .int
  | 8 => .int
  | 9 => .int
  | 10 => .int
  | 11 => .boolean
  | 12 => .int
  | 13 => .boolean
  | 14 => .int
  | _ => .int
abbrev wsX00 : List Cond := u_ws RX0 TX0 16
theorem nmX0 : ∀ a, a < 16 → ∀ b, b < 16 → a ≠ b → (TX0 a).2.1 ≠ (TX0 b).2.1 := by decide +kernel
theorem tyX0_ok : ∀ k, k < 16 → parseFieldDescriptor (TX0 k).2.2.1 = some (tyX0 k) := by decide +kernel
abbrev cX0_init : ByteArray := prog_2_method_1_code
def yX0_init : MethodName := ⟨RX0, "<init>", "(LCheeseFirst$Cellar;)V"⟩
abbrev cX0_forgetAll : ByteArray := prog_2_method_2_code
def yX0_forgetAll : MethodName := ⟨RX0, "forgetAll", "()V"⟩
abbrev cX0_codeAt : ByteArray := prog_2_method_3_code
def yX0_codeAt : MethodName := ⟨RX0, "codeAt", "(I)I"⟩
abbrev cX0_lookFrom : ByteArray := prog_2_method_4_code
def yX0_lookFrom : MethodName := ⟨RX0, "lookFrom", "(LCheeseFirst$Winter;)V"⟩
abbrev cX0_meanPlace : ByteArray := prog_2_method_5_code
def yX0_meanPlace : MethodName := ⟨RX0, "meanPlace", "(III)I"⟩
abbrev cX0_meanAt : ByteArray := prog_2_method_6_code
def yX0_meanAt : MethodName := ⟨RX0, "meanAt", "(III)I"⟩
abbrev cX0_tellMeans : ByteArray := prog_2_method_7_code
def yX0_tellMeans : MethodName := ⟨RX0, "tellMeans", "(I)V"⟩
abbrev cX0_tellMeansOfCut : ByteArray := prog_2_method_8_code
def yX0_tellMeansOfCut : MethodName := ⟨RX0, "tellMeansOfCut", "(IIZ)V"⟩
abbrev cX0_tellMost : ByteArray := prog_2_method_9_code
def yX0_tellMost : MethodName := ⟨RX0, "tellMost", "()V"⟩
abbrev cX0_search : ByteArray := prog_2_method_10_code
def yX0_search : MethodName := ⟨RX0, "search", "(III)V"⟩
abbrev cX0_tellRow : ByteArray := prog_2_method_11_code
def yX0_tellRow : MethodName := ⟨RX0, "tellRow", "(II)V"⟩
abbrev cX0_takeIfBetter : ByteArray := prog_2_method_12_code
def yX0_takeIfBetter : MethodName := ⟨RX0, "takeIfBetter", "(I)V"⟩
def RX1 : String := "CheeseFirst$Cellar"
def TX1 : u_T := fun k => match k with
  | 0 => ("CheeseFirst$Cellar", "traits", "[[I", true)
  | 1 => ("CheeseFirst$Cellar", "sortOfWheel", "[I", true)
  | 2 => ("CheeseFirst$Cellar", "portionsOfWheel", "[I", true)
  | 3 => ("CheeseFirst$Cellar", "warmth", "[I", true)
  | 4 => ("CheeseFirst$Cellar", "prices", "[I", true)
  | 5 => ("CheeseFirst$Cellar", "sorts", "I", false)
  | 6 => ("CheeseFirst$Cellar", "wheels", "I", false)
  | 7 => ("CheeseFirst$Cellar", "weeks", "I", false)
  | _ => ("CheeseFirst$Cellar", "openMost", "I", false)
def tyX1 : Nat → FieldType := fun k => match k with
  | 0 => .array (.array .int)
  | 1 => .array .int
  | 2 => .array .int
  | 3 => .array .int
  | 4 => .array .int
  | 5 => .int
  | 6 => .int
  | 7 => .int
  | _ => .int
abbrev wsX10 : List Cond := u_ws RX1 TX1 9
theorem nmX1 : ∀ a, a < 9 → ∀ b, b < 9 → a ≠ b → (TX1 a).2.1 ≠ (TX1 b).2.1 := by decide +kernel
theorem tyX1_ok : ∀ k, k < 9 → parseFieldDescriptor (TX1 k).2.2.1 = some (tyX1 k) := by decide +kernel
abbrev cX1_init : ByteArray := prog_3_method_1_code
def yX1_init : MethodName := ⟨RX1, "<init>", "()V"⟩
abbrev cX1_becomeEmpty : ByteArray := prog_3_method_2_code
def yX1_becomeEmpty : MethodName := ⟨RX1, "becomeEmpty", "()V"⟩
abbrev cX1_becomeLike : ByteArray := prog_3_method_3_code
def yX1_becomeLike : MethodName := ⟨RX1, "becomeLike", "(LCheeseFirst$Cellar;)V"⟩
abbrev cX1_isSort : ByteArray := prog_3_method_4_code
def yX1_isSort : MethodName := ⟨RX1, "isSort", "(I)Z"⟩
abbrev cX1_isWheel : ByteArray := prog_3_method_5_code
def yX1_isWheel : MethodName := ⟨RX1, "isWheel", "(I)Z"⟩
abbrev cX1_trait : ByteArray := prog_3_method_6_code
def yX1_trait : MethodName := ⟨RX1, "trait", "(II)I"⟩
abbrev cX1_sortOf : ByteArray := prog_3_method_7_code
def yX1_sortOf : MethodName := ⟨RX1, "sortOf", "(I)I"⟩
abbrev cX1_portionsAtFirst : ByteArray := prog_3_method_8_code
def yX1_portionsAtFirst : MethodName := ⟨RX1, "portionsAtFirst", "(I)I"⟩
abbrev cX1_warmthOf : ByteArray := prog_3_method_9_code
def yX1_warmthOf : MethodName := ⟨RX1, "warmthOf", "(I)I"⟩
abbrev cX1_priceOf : ByteArray := prog_3_method_10_code
def yX1_priceOf : MethodName := ⟨RX1, "priceOf", "(I)I"⟩
abbrev cX1_startStand : ByteArray := prog_3_method_11_code
def yX1_startStand : MethodName := ⟨RX1, "startStand", "()I"⟩
abbrev cX1_isWhole : ByteArray := prog_3_method_12_code
def yX1_isWhole : MethodName := ⟨RX1, "isWhole", "(II)Z"⟩
abbrev cX1_isOpen : ByteArray := prog_3_method_13_code
def yX1_isOpen : MethodName := ⟨RX1, "isOpen", "(II)Z"⟩
abbrev cX1_countOpen : ByteArray := prog_3_method_14_code
def yX1_countOpen : MethodName := ⟨RX1, "countOpen", "(I)I"⟩
abbrev cX1_goodNow : ByteArray := prog_3_method_15_code
def yX1_goodNow : MethodName := ⟨RX1, "goodNow", "(II)I"⟩
abbrev cX1_mayEat : ByteArray := prog_3_method_16_code
def yX1_mayEat : MethodName := ⟨RX1, "mayEat", "(II)Z"⟩
abbrev cX1_maySell : ByteArray := prog_3_method_17_code
def yX1_maySell : MethodName := ⟨RX1, "maySell", "(II)Z"⟩
abbrev cX1_mayBe : ByteArray := prog_3_method_18_code
def yX1_mayBe : MethodName := ⟨RX1, "mayBe", "(II)Z"⟩
abbrev cX1_hadBy : ByteArray := prog_3_method_19_code
def yX1_hadBy : MethodName := ⟨RX1, "hadBy", "(III)I"⟩
abbrev cX1_standAfter : ByteArray := prog_3_method_20_code
def yX1_standAfter : MethodName := ⟨RX1, "standAfter", "(II)I"⟩
abbrev cX1_mayGoOn : ByteArray := prog_3_method_21_code
def yX1_mayGoOn : MethodName := ⟨RX1, "mayGoOn", "(III)Z"⟩
abbrev cX1_tenthsNow : ByteArray := prog_3_method_22_code
def yX1_tenthsNow : MethodName := ⟨RX1, "tenthsNow", "(IIII)I"⟩
abbrev cX1_tenths : ByteArray := prog_3_method_23_code
def yX1_tenths : MethodName := ⟨RX1, "tenths", "(IIZI)I"⟩
def RX2 : String := "CheeseFirst$Notes"
def TX2 : u_T := fun k => match k with
  | 0 => ("CheeseFirst$Notes", "cellar", "LCheeseFirst$Cellar;", true)
  | _ => ("CheeseFirst$Notes", "asked", "J", false)
def tyX2 : Nat → FieldType := fun k => match k with
  | 0 => .object "CheeseFirst$Cellar"
  | _ => .long
abbrev wsX20 : List Cond := u_ws RX2 TX2 2
theorem nmX2 : ∀ a, a < 2 → ∀ b, b < 2 → a ≠ b → (TX2 a).2.1 ≠ (TX2 b).2.1 := by decide +kernel
theorem tyX2_ok : ∀ k, k < 2 → parseFieldDescriptor (TX2 k).2.2.1 = some (tyX2 k) := by decide +kernel
abbrev cX2_init : ByteArray := prog_4_method_1_code
def yX2_init : MethodName := ⟨RX2, "<init>", "(LCheeseFirst$Cellar;)V"⟩
abbrev cX2_byKind : ByteArray := prog_4_method_2_code
def yX2_byKind : MethodName := ⟨RX2, "byKind", "(III)I"⟩
abbrev cX2_asRule : ByteArray := prog_4_method_3_code
def yX2_asRule : MethodName := ⟨RX2, "asRule", "(II)I"⟩
abbrev cX2_asOld : ByteArray := prog_4_method_4_code
def yX2_asOld : MethodName := ⟨RX2, "asOld", "(II)I"⟩
abbrev cX2_asBest : ByteArray := prog_4_method_5_code
def yX2_asBest : MethodName := ⟨RX2, "asBest", "(II)I"⟩
abbrev cX2_asLook : ByteArray := prog_4_method_6_code
def yX2_asLook : MethodName := ⟨RX2, "asLook", "(II)I"⟩
abbrev cX2_asSave : ByteArray := prog_4_method_7_code
def yX2_asSave : MethodName := ⟨RX2, "asSave", "(II)I"⟩
abbrev cX2_asWorst : ByteArray := prog_4_method_8_code
def yX2_asWorst : MethodName := ⟨RX2, "asWorst", "(II)I"⟩
def RX3 : String := "CheeseFirst$Outlook"
def TX3 : u_T := fun k => match k with
  | 0 => ("CheeseFirst$Outlook", "cellar", "LCheeseFirst$Cellar;", true)
  | 1 => ("CheeseFirst$Outlook", "rule", "I", false)
  | 2 => ("CheeseFirst$Outlook", "stopped", "I", false)
  | 3 => ("CheeseFirst$Outlook", "bits", "I", false)
  | 4 => ("CheeseFirst$Outlook", "stamp", "J", false)
  | 5 => ("CheeseFirst$Outlook", "plans", "[J", false)
  | 6 => ("CheeseFirst$Outlook", "values", "[J", false)
  | _ => ("CheeseFirst$Outlook", "lefts", "[J", false)
def tyX3 : Nat → FieldType := fun k => match k with
  | 0 => .object "CheeseFirst$Cellar"
  | 1 => .int
  | 2 => .int
  | 3 => .int
  | 4 => .long
  | 5 => .array .long
  | 6 => .array .long
  | _ => .array .long
abbrev wsX30 : List Cond := u_ws RX3 TX3 8
theorem nmX3 : ∀ a, a < 8 → ∀ b, b < 8 → a ≠ b → (TX3 a).2.1 ≠ (TX3 b).2.1 := by decide +kernel
theorem tyX3_ok : ∀ k, k < 8 → parseFieldDescriptor (TX3 k).2.2.1 = some (tyX3 k) := by decide +kernel
abbrev cX3_init : ByteArray := prog_5_method_1_code
def yX3_init : MethodName := ⟨RX3, "<init>", "(LCheeseFirst$Cellar;)V"⟩
abbrev cX3_forgetAll : ByteArray := prog_5_method_2_code
def yX3_forgetAll : MethodName := ⟨RX3, "forgetAll", "()V"⟩
abbrev cX3_lookBy : ByteArray := prog_5_method_3_code
def yX3_lookBy : MethodName := ⟨RX3, "lookBy", "(II)V"⟩
abbrev cX3_stamped : ByteArray := prog_5_method_4_code
def yX3_stamped : MethodName := ⟨RX3, "stamped", "(I)J"⟩
abbrev cX3_isVoid : ByteArray := prog_5_method_5_code
def yX3_isVoid : MethodName := ⟨RX3, "isVoid", "(J)Z"⟩
abbrev cX3_valueAhead : ByteArray := prog_5_method_6_code
def yX3_valueAhead : MethodName := ⟨RX3, "valueAhead", "(II)I"⟩
abbrev cX3_leftAhead : ByteArray := prog_5_method_7_code
def yX3_leftAhead : MethodName := ⟨RX3, "leftAhead", "(II)I"⟩
abbrev cX3_choiceAt : ByteArray := prog_5_method_8_code
def yX3_choiceAt : MethodName := ⟨RX3, "choiceAt", "(II)I"⟩
abbrev cX3_valueBehind : ByteArray := prog_5_method_9_code
def yX3_valueBehind : MethodName := ⟨RX3, "valueBehind", "(II)I"⟩
abbrev cX3_leftBehind : ByteArray := prog_5_method_10_code
def yX3_leftBehind : MethodName := ⟨RX3, "leftBehind", "(II)I"⟩
abbrev cX3_broughtBy : ByteArray := prog_5_method_11_code
def yX3_broughtBy : MethodName := ⟨RX3, "broughtBy", "(III)I"⟩
abbrev cX3_placeOf : ByteArray := prog_5_method_12_code
def yX3_placeOf : MethodName := ⟨RX3, "placeOf", "(II)I"⟩
abbrev cX3_standBehind : ByteArray := prog_5_method_13_code
def yX3_standBehind : MethodName := ⟨RX3, "standBehind", "(II)I"⟩
abbrev cX3_planAt : ByteArray := prog_5_method_14_code
def yX3_planAt : MethodName := ⟨RX3, "planAt", "(II)I"⟩
abbrev cX3_bestPlan : ByteArray := prog_5_method_15_code
def yX3_bestPlan : MethodName := ⟨RX3, "bestPlan", "(II)I"⟩
abbrev cX3_rulePlan : ByteArray := prog_5_method_16_code
def yX3_rulePlan : MethodName := ⟨RX3, "rulePlan", "(II)I"⟩
abbrev cX3_rankOf : ByteArray := prog_5_method_17_code
def yX3_rankOf : MethodName := ⟨RX3, "rankOf", "(II)I"⟩
abbrev cX3_mean : ByteArray := prog_5_method_18_code
def yX3_mean : MethodName := ⟨RX3, "mean", "(IIZ)I"⟩
abbrev cX3_share : ByteArray := prog_5_method_19_code
def yX3_share : MethodName := ⟨RX3, "share", "(II)I"⟩
def RX4 : String := "CheeseFirst$Reader"
def TX4 : u_T := fun k => match k with
  | 0 => ("CheeseFirst$Reader", "text", "[B", true)
  | 1 => ("CheeseFirst$Reader", "into", "LCheeseFirst$Cellar;", true)
  | 2 => ("CheeseFirst$Reader", "tokens", "[I", true)
  | 3 => ("CheeseFirst$Reader", "numbers", "[I", true)
  | 4 => ("CheeseFirst$Reader", "places", "[I", true)
  | 5 => ("CheeseFirst$Reader", "length", "I", false)
  | 6 => ("CheeseFirst$Reader", "at", "I", false)
  | 7 => ("CheeseFirst$Reader", "token", "I", false)
  | _ => ("CheeseFirst$Reader", "number", "I", false)
def tyX4 : Nat → FieldType := fun k => match k with
  | 0 => .array .byte
  | 1 => .object "CheeseFirst$Cellar"
  | 2 => .array .int
  | 3 => .array .int
  | 4 => .array .int
  | 5 => .int
  | 6 => .int
  | 7 => .int
  | _ => .int
abbrev wsX40 : List Cond := u_ws RX4 TX4 9
theorem nmX4 : ∀ a, a < 9 → ∀ b, b < 9 → a ≠ b → (TX4 a).2.1 ≠ (TX4 b).2.1 := by decide +kernel
theorem tyX4_ok : ∀ k, k < 9 → parseFieldDescriptor (TX4 k).2.2.1 = some (tyX4 k) := by decide +kernel
abbrev cX4_init : ByteArray := prog_6_method_1_code
def yX4_init : MethodName := ⟨RX4, "<init>", "([BLCheeseFirst$Cellar;)V"⟩
abbrev cX4_readAll : ByteArray := prog_6_method_2_code
def yX4_readAll : MethodName := ⟨RX4, "readAll", "(I)I"⟩
abbrev cX4_lookAt : ByteArray := prog_6_method_3_code
def yX4_lookAt : MethodName := ⟨RX4, "lookAt", "(I)V"⟩
abbrev cX4_readItem : ByteArray := prog_6_method_4_code
def yX4_readItem : MethodName := ⟨RX4, "readItem", "(Z)Z"⟩
abbrev cX4_readWeeks : ByteArray := prog_6_method_5_code
def yX4_readWeeks : MethodName := ⟨RX4, "readWeeks", "()Z"⟩
abbrev cX4_readSort : ByteArray := prog_6_method_6_code
def yX4_readSort : MethodName := ⟨RX4, "readSort", "()Z"⟩
abbrev cX4_readWheel : ByteArray := prog_6_method_7_code
def yX4_readWheel : MethodName := ⟨RX4, "readWheel", "()Z"⟩
abbrev cX4_readOpen : ByteArray := prog_6_method_8_code
def yX4_readOpen : MethodName := ⟨RX4, "readOpen", "()Z"⟩
abbrev cX4_readOfWeek : ByteArray := prog_6_method_9_code
def yX4_readOfWeek : MethodName := ⟨RX4, "readOfWeek", "([II)Z"⟩
abbrev cX4_takeRow : ByteArray := prog_6_method_10_code
def yX4_takeRow : MethodName := ⟨RX4, "takeRow", "([IIII)Z"⟩
abbrev cX4_isNumber : ByteArray := prog_6_method_11_code
def yX4_isNumber : MethodName := ⟨RX4, "isNumber", "(II)Z"⟩
abbrev cX4_take : ByteArray := prog_6_method_12_code
def yX4_take : MethodName := ⟨RX4, "take", "(I)Z"⟩
abbrev cX4_cutUp : ByteArray := prog_6_method_13_code
def yX4_cutUp : MethodName := ⟨RX4, "cutUp", "()V"⟩
abbrev cX4_isBetween : ByteArray := prog_6_method_14_code
def yX4_isBetween : MethodName := ⟨RX4, "isBetween", "(ICC)Z"⟩
abbrev cX4_endOfToken : ByteArray := prog_6_method_15_code
def yX4_endOfToken : MethodName := ⟨RX4, "endOfToken", "(I)I"⟩
abbrev cX4_tokenOf : ByteArray := prog_6_method_16_code
def yX4_tokenOf : MethodName := ⟨RX4, "tokenOf", "(II)I"⟩
abbrev cX4_numberOf : ByteArray := prog_6_method_17_code
def yX4_numberOf : MethodName := ⟨RX4, "numberOf", "(II)I"⟩
abbrev cX4_wordOf : ByteArray := prog_6_method_18_code
def yX4_wordOf : MethodName := ⟨RX4, "wordOf", "(II)I"⟩
abbrev cX4_isWord : ByteArray := prog_6_method_19_code
def yX4_isWord : MethodName := ⟨RX4, "isWord", "(Ljava/lang/String;II)Z"⟩
def RX5 : String := "CheeseFirst$Spread"
def TX5 : u_T := fun k => match k with
  | _ => ("CheeseFirst$Spread", "weights", "[J", true)
def tyX5 : Nat → FieldType := fun k => match k with
  | _ => .array .long
abbrev wsX50 : List Cond := u_ws RX5 TX5 1
theorem nmX5 : ∀ a, a < 1 → ∀ b, b < 1 → a ≠ b → (TX5 a).2.1 ≠ (TX5 b).2.1 := by decide +kernel
theorem tyX5_ok : ∀ k, k < 1 → parseFieldDescriptor (TX5 k).2.2.1 = some (tyX5 k) := by decide +kernel
abbrev cX5_init : ByteArray := prog_7_method_1_code
def yX5_init : MethodName := ⟨RX5, "<init>", "()V"⟩
abbrev cX5_startAt : ByteArray := prog_7_method_2_code
def yX5_startAt : MethodName := ⟨RX5, "startAt", "(I)V"⟩
abbrev cX5_becomeLike : ByteArray := prog_7_method_3_code
def yX5_becomeLike : MethodName := ⟨RX5, "becomeLike", "(LCheeseFirst$Spread;)V"⟩
abbrev cX5_weightOf : ByteArray := prog_7_method_4_code
def yX5_weightOf : MethodName := ⟨RX5, "weightOf", "(I)J"⟩
abbrev cX5_total : ByteArray := prog_7_method_5_code
def yX5_total : MethodName := ⟨RX5, "total", "()J"⟩
abbrev cX5_allGood : ByteArray := prog_7_method_6_code
def yX5_allGood : MethodName := ⟨RX5, "allGood", "(LCheeseFirst$Cellar;I)J"⟩
abbrev cX5_weekGoesBy : ByteArray := prog_7_method_7_code
def yX5_weekGoesBy : MethodName := ⟨RX5, "weekGoesBy", "(LCheeseFirst$Cellar;IZI)V"⟩
abbrev cX5_rindIsSeen : ByteArray := prog_7_method_8_code
def yX5_rindIsSeen : MethodName := ⟨RX5, "rindIsSeen", "(LCheeseFirst$Cellar;IZ)V"⟩
abbrev cX5_becomeLeast : ByteArray := prog_7_method_9_code
def yX5_becomeLeast : MethodName := ⟨RX5, "becomeLeast", "()V"⟩
abbrev cX5_greatest : ByteArray := prog_7_method_10_code
def yX5_greatest : MethodName := ⟨RX5, "greatest", "()J"⟩
def RX6 : String := "CheeseFirst$Thought"
def TX6 : u_T := fun k => match k with
  | 0 => ("CheeseFirst$Thought", "cellar", "LCheeseFirst$Cellar;", true)
  | 1 => ("CheeseFirst$Thought", "spread", "LCheeseFirst$Spread;", true)
  | 2 => ("CheeseFirst$Thought", "trial", "LCheeseFirst$Spread;", true)
  | _ => ("CheeseFirst$Thought", "sort", "I", false)
def tyX6 : Nat → FieldType := fun k => match k with
  | 0 => .object "CheeseFirst$Cellar"
  | 1 => .object "CheeseFirst$Spread"
  | 2 => .object "CheeseFirst$Spread"
  | _ => .int
abbrev wsX60 : List Cond := u_ws RX6 TX6 4
theorem nmX6 : ∀ a, a < 4 → ∀ b, b < 4 → a ≠ b → (TX6 a).2.1 ≠ (TX6 b).2.1 := by decide +kernel
theorem tyX6_ok : ∀ k, k < 4 → parseFieldDescriptor (TX6 k).2.2.1 = some (tyX6 k) := by decide +kernel
abbrev cX6_init : ByteArray := prog_8_method_1_code
def yX6_init : MethodName := ⟨RX6, "<init>", "(LCheeseFirst$Cellar;)V"⟩
abbrev cX6_beginAnew : ByteArray := prog_8_method_2_code
def yX6_beginAnew : MethodName := ⟨RX6, "beginAnew", "(I)V"⟩
abbrev cX6_age : ByteArray := prog_8_method_3_code
def yX6_age : MethodName := ⟨RX6, "age", "()I"⟩
abbrev cX6_see : ByteArray := prog_8_method_4_code
def yX6_see : MethodName := ⟨RX6, "see", "(Z)I"⟩
abbrev cX6_takeTrial : ByteArray := prog_8_method_5_code
def yX6_takeTrial : MethodName := ⟨RX6, "takeTrial", "()I"⟩
abbrev cX6_likely : ByteArray := prog_8_method_6_code
def yX6_likely : MethodName := ⟨RX6, "likely", "(II)J"⟩
def RX7 : String := "CheeseFirst$Winter"
def TX7 : u_T := fun k => match k with
  | 0 => ("CheeseFirst$Winter", "week", "I", false)
  | 1 => ("CheeseFirst$Winter", "acted", "Z", false)
  | 2 => ("CheeseFirst$Winter", "stand", "I", false)
  | 3 => ("CheeseFirst$Winter", "stopped", "I", false)
  | 4 => ("CheeseFirst$Winter", "good", "I", false)
  | 5 => ("CheeseFirst$Winter", "coins", "I", false)
  | 6 => ("CheeseFirst$Winter", "lot", "I", false)
  | _ => ("CheeseFirst$Winter", "kept", "Z", false)
def tyX7 : Nat → FieldType := fun k => match k with
  | 0 => .int
  | 1 => .boolean
  | 2 => .int
  | 3 => .int
  | 4 => .int
  | 5 => .int
  | 6 => .int
  | _ => .boolean
abbrev wsX70 : List Cond := u_ws RX7 TX7 8
theorem nmX7 : ∀ a, a < 8 → ∀ b, b < 8 → a ≠ b → (TX7 a).2.1 ≠ (TX7 b).2.1 := by decide +kernel
theorem tyX7_ok : ∀ k, k < 8 → parseFieldDescriptor (TX7 k).2.2.1 = some (tyX7 k) := by decide +kernel
abbrev cX7_init : ByteArray := prog_9_method_1_code
def yX7_init : MethodName := ⟨RX7, "<init>", "()V"⟩
abbrev cX7_beginAnew : ByteArray := prog_9_method_2_code
def yX7_beginAnew : MethodName := ⟨RX7, "beginAnew", "(I)V"⟩
abbrev cX7_becomeLike : ByteArray := prog_9_method_3_code
def yX7_becomeLike : MethodName := ⟨RX7, "becomeLike", "(LCheeseFirst$Winter;)V"⟩
abbrev cX7_act : ByteArray := prog_9_method_4_code
def yX7_act : MethodName := ⟨RX7, "act", "(LCheeseFirst$Cellar;I)I"⟩
abbrev cX7_goOn : ByteArray := prog_9_method_5_code
def yX7_goOn : MethodName := ⟨RX7, "goOn", "(LCheeseFirst$Cellar;)I"⟩
def RX8 : String := "CheeseFirst"
def TX8 : u_T := fun k => match k with
  | 0 => ("CheeseFirst", "text", "[B", true)
  | 1 => ("CheeseFirst", "textLength", "I", false)
  | 2 => ("CheeseFirst", "held", "LCheeseFirst$Cellar;", true)
  | 3 => ("CheeseFirst", "draft", "LCheeseFirst$Cellar;", true)
  | 4 => ("CheeseFirst", "reader", "LCheeseFirst$Reader;", true)
  | 5 => ("CheeseFirst", "winter", "LCheeseFirst$Winter;", true)
  | 6 => ("CheeseFirst", "firstImage", "LCheeseFirst$Winter;", true)
  | 7 => ("CheeseFirst", "secondImage", "LCheeseFirst$Winter;", true)
  | 8 => ("CheeseFirst", "best", "LCheeseFirst$Outlook;", true)
  | 9 => ("CheeseFirst", "aside", "LCheeseFirst$Outlook;", true)
  | 10 => ("CheeseFirst", "blindRow", "LCheeseFirst$BlindRow;", true)
  | 11 => ("CheeseFirst", "spread", "LCheeseFirst$Spread;", true)
  | 12 => ("CheeseFirst", "mind", "LCheeseFirst$Thought;", true)
  | _ => ("CheeseFirst", "notes", "LCheeseFirst$Notes;", true)
def tyX8 : Nat → FieldType := fun k => match k with
  | 0 => .array .byte
  | 1 => .int
  | 2 => .object "CheeseFirst$Cellar"
  | 3 => .object "CheeseFirst$Cellar"
  | 4 => .object "CheeseFirst$Reader"
  | 5 => .object "CheeseFirst$Winter"
  | 6 => .object "CheeseFirst$Winter"
  | 7 => .object "CheeseFirst$Winter"
  | 8 => .object "CheeseFirst$Outlook"
  | 9 => .object "CheeseFirst$Outlook"
  | 10 => .object "CheeseFirst$BlindRow"
  | 11 => .object "CheeseFirst$Spread"
  | 12 => .object "CheeseFirst$Thought"
  | _ => .object "CheeseFirst$Notes"
abbrev wsX80 : List Cond := u_ws RX8 TX8 14
theorem nmX8 : ∀ a, a < 14 → ∀ b, b < 14 → a ≠ b → (TX8 a).2.1 ≠ (TX8 b).2.1 := by decide +kernel
theorem tyX8_ok : ∀ k, k < 14 → parseFieldDescriptor (TX8 k).2.2.1 = some (tyX8 k) := by decide +kernel
abbrev cX8_init : ByteArray := prog_1_method_1_code
def yX8_init : MethodName := ⟨RX8, "<init>", "()V"⟩
abbrev cX8_type : ByteArray := prog_1_method_2_code
def yX8_type : MethodName := ⟨RX8, "type", "(JI)I"⟩
abbrev cX8_clear : ByteArray := prog_1_method_3_code
def yX8_clear : MethodName := ⟨RX8, "clear", "()I"⟩
abbrev cX8_cellar : ByteArray := prog_1_method_4_code
def yX8_cellar : MethodName := ⟨RX8, "cellar", "()I"⟩
abbrev cX8_sort : ByteArray := prog_1_method_5_code
def yX8_sort : MethodName := ⟨RX8, "sort", "(II)I"⟩
abbrev cX8_wheel : ByteArray := prog_1_method_6_code
def yX8_wheel : MethodName := ⟨RX8, "wheel", "(II)I"⟩
abbrev cX8_week : ByteArray := prog_1_method_7_code
def yX8_week : MethodName := ⟨RX8, "week", "(II)I"⟩
abbrev cX8_place : ByteArray := prog_1_method_8_code
def yX8_place : MethodName := ⟨RX8, "place", "(III)I"⟩
abbrev cX8_eat : ByteArray := prog_1_method_9_code
def yX8_eat : MethodName := ⟨RX8, "eat", "(I)I"⟩
abbrev cX8_sell : ByteArray := prog_1_method_10_code
def yX8_sell : MethodName := ⟨RX8, "sell", "(I)I"⟩
abbrev cX8_actIfMay : ByteArray := prog_1_method_11_code
def yX8_actIfMay : MethodName := ⟨RX8, "actIfMay", "(I)I"⟩
abbrev cX8_isOver : ByteArray := prog_1_method_12_code
def yX8_isOver : MethodName := ⟨RX8, "isOver", "()Z"⟩
abbrev cX8_mayActNow : ByteArray := prog_1_method_13_code
def yX8_mayActNow : MethodName := ⟨RX8, "mayActNow", "()Z"⟩
abbrev cX8_stop : ByteArray := prog_1_method_14_code
def yX8_stop : MethodName := ⟨RX8, "stop", "(I)I"⟩
abbrev cX8_next : ByteArray := prog_1_method_15_code
def yX8_next : MethodName := ⟨RX8, "next", "()I"⟩
abbrev cX8_now : ByteArray := prog_1_method_16_code
def yX8_now : MethodName := ⟨RX8, "now", "(I)I"⟩
abbrev cX8_lot : ByteArray := prog_1_method_17_code
def yX8_lot : MethodName := ⟨RX8, "lot", "(I)I"⟩
abbrev cX8_isRule : ByteArray := prog_1_method_18_code
def yX8_isRule : MethodName := ⟨RX8, "isRule", "(I)Z"⟩
abbrev cX8_outlookBy : ByteArray := prog_1_method_19_code
def yX8_outlookBy : MethodName := ⟨RX8, "outlookBy", "(I)LCheeseFirst$Outlook;"⟩
abbrev cX8_value : ByteArray := prog_1_method_20_code
def yX8_value : MethodName := ⟨RX8, "value", "(I)I"⟩
abbrev cX8_valueNow : ByteArray := prog_1_method_21_code
def yX8_valueNow : MethodName := ⟨RX8, "valueNow", "(LCheeseFirst$Outlook;)I"⟩
abbrev cX8_left : ByteArray := prog_1_method_22_code
def yX8_left : MethodName := ⟨RX8, "left", "(I)I"⟩
abbrev cX8_choice : ByteArray := prog_1_method_23_code
def yX8_choice : MethodName := ⟨RX8, "choice", "(I)I"⟩
abbrev cX8_choiceNow : ByteArray := prog_1_method_24_code
def yX8_choiceNow : MethodName := ⟨RX8, "choiceNow", "(I)I"⟩
abbrev cX8_brings : ByteArray := prog_1_method_25_code
def yX8_brings : MethodName := ⟨RX8, "brings", "(I)I"⟩
abbrev cX8_play : ByteArray := prog_1_method_26_code
def yX8_play : MethodName := ⟨RX8, "play", "(I)I"⟩
abbrev cX8_blind : ByteArray := prog_1_method_27_code
def yX8_blind : MethodName := ⟨RX8, "blind", "(I)I"⟩
abbrev cX8_know : ByteArray := prog_1_method_28_code
def yX8_know : MethodName := ⟨RX8, "know", "()I"⟩
abbrev cX8_spare : ByteArray := prog_1_method_29_code
def yX8_spare : MethodName := ⟨RX8, "spare", "(I)I"⟩
abbrev cX8_stands : ByteArray := prog_1_method_30_code
def yX8_stands : MethodName := ⟨RX8, "stands", "(IIII)J"⟩
abbrev cX8_thought : ByteArray := prog_1_method_31_code
def yX8_thought : MethodName := ⟨RX8, "thought", "(I)I"⟩
abbrev cX8_aged : ByteArray := prog_1_method_32_code
def yX8_aged : MethodName := ⟨RX8, "aged", "()I"⟩
abbrev cX8_shown : ByteArray := prog_1_method_33_code
def yX8_shown : MethodName := ⟨RX8, "shown", "(I)I"⟩
abbrev cX8_thinks : ByteArray := prog_1_method_34_code
def yX8_thinks : MethodName := ⟨RX8, "thinks", "(II)J"⟩
abbrev cX8_note : ByteArray := prog_1_method_35_code
def yX8_note : MethodName := ⟨RX8, "note", "(II)I"⟩
abbrev cX8_imageOf : ByteArray := prog_1_method_36_code
def yX8_imageOf : MethodName := ⟨RX8, "imageOf", "(I)LCheeseFirst$Winter;"⟩
abbrev cX8_keep : ByteArray := prog_1_method_37_code
def yX8_keep : MethodName := ⟨RX8, "keep", "(I)I"⟩
abbrev cX8_back : ByteArray := prog_1_method_38_code
def yX8_back : MethodName := ⟨RX8, "back", "(I)I"⟩
abbrev cX8_count : ByteArray := prog_1_method_39_code
def yX8_count : MethodName := ⟨RX8, "count", "(I)I"⟩
abbrev cX8_trace : ByteArray := prog_1_method_40_code
def yX8_trace : MethodName := ⟨RX8, "trace", "()J"⟩
abbrev cX8_portionsOf : ByteArray := prog_1_method_41_code
def yX8_portionsOf : MethodName := ⟨RX8, "portionsOf", "(II)I"⟩
abbrev cX8_stepOf : ByteArray := prog_1_method_42_code
def yX8_stepOf : MethodName := ⟨RX8, "stepOf", "(II)I"⟩
abbrev cX8_field : ByteArray := prog_1_method_43_code
def yX8_field : MethodName := ⟨RX8, "field", "(III)I"⟩
abbrev cX8_without : ByteArray := prog_1_method_44_code
def yX8_without : MethodName := ⟨RX8, "without", "(II)I"⟩
abbrev cX8_allPortions : ByteArray := prog_1_method_45_code
def yX8_allPortions : MethodName := ⟨RX8, "allPortions", "(I)I"⟩
abbrev cX8_lean : ByteArray := prog_1_method_46_code
def yX8_lean : MethodName := ⟨RX8, "lean", "(I)I"⟩
abbrev cX8_has : ByteArray := prog_1_method_47_code
def yX8_has : MethodName := ⟨RX8, "has", "(II)Z"⟩
abbrev cX8_commonPart : ByteArray := prog_1_method_48_code
def yX8_commonPart : MethodName := ⟨RX8, "commonPart", "(JJ)J"⟩
abbrev cX8_partOfLeast : ByteArray := prog_1_method_49_code
def yX8_partOfLeast : MethodName := ⟨RX8, "partOfLeast", "(JJI)J"⟩
def RX9 : String := "CheeseFirstModel"
def TX9 : u_T := fun k => match k with
  | 0 => ("CheeseFirstModel", "trace", "J", false)
  | 1 => ("CheeseFirstModel", "text", "[B", true)
  | 2 => ("CheeseFirstModel", "typed", "I", false)
  | 3 => ("CheeseFirstModel", "sorts", "[I", true)
  | 4 => ("CheeseFirstModel", "wheels", "[I", true)
  | 5 => ("CheeseFirstModel", "weeks", "[I", true)
  | 6 => ("CheeseFirstModel", "opens", "[I", true)
  | 7 => ("CheeseFirstModel", "told", "[I", true)
  | 8 => ("CheeseFirstModel", "sortOf", "[I", true)
  | 9 => ("CheeseFirstModel", "size", "[I", true)
  | 10 => ("CheeseFirstModel", "warm", "[I", true)
  | 11 => ("CheeseFirstModel", "price", "[I", true)
  | 12 => ("CheeseFirstModel", "at", "I", false)
  | 13 => ("CheeseFirstModel", "start", "I", false)
  | 14 => ("CheeseFirstModel", "kind", "I", false)
  | 15 => ("CheeseFirstModel", "value", "I", false)
  | 16 => ("CheeseFirstModel", "fault", "I", false)
  | 17 => ("CheeseFirstModel", "week", "[I", true)
  | 18 => ("CheeseFirstModel", "isDone", "[Z", true)
  | 19 => ("CheeseFirstModel", "good", "[I", true)
  | 20 => ("CheeseFirstModel", "coins", "[I", true)
  | 21 => ("CheeseFirstModel", "lots", "[I", true)
  | 22 => ("CheeseFirstModel", "steps", "[I", true)
  | 23 => ("CheeseFirstModel", "left", "[I", true)
  | 24 => ("CheeseFirstModel", "isStopped", "[Z", true)
  | 25 => ("CheeseFirstModel", "isKept", "[Z", true)
  | 26 => ("CheeseFirstModel", "had", "[I", true)
  | 27 => ("CheeseFirstModel", "rest", "[I", true)
  | 28 => ("CheeseFirstModel", "hadAhead", "[I", true)
  | 29 => ("CheeseFirstModel", "restAhead", "[I", true)
  | 30 => ("CheeseFirstModel", "gains", "[I", true)
  | 31 => ("CheeseFirstModel", "row", "[I", true)
  | 32 => ("CheeseFirstModel", "bestRow", "[I", true)
  | 33 => ("CheeseFirstModel", "cutIn", "[I", true)
  | 34 => ("CheeseFirstModel", "portions", "[I", true)
  | 35 => ("CheeseFirstModel", "weights", "[J", true)
  | 36 => ("CheeseFirstModel", "thoughtOf", "I", false)
  | _ => ("CheeseFirstModel", "thoughts", "[J", true)
def tyX9 : Nat → FieldType := fun k => match k with
  | 0 => .long
  | 1 => .array .byte
  | 2 => .int
  | 3 => .array .int
  | 4 => .array .int
  | 5 => .array .int
  | 6 => .array .int
  | 7 => .array .int
  | 8 => .array .int
  | 9 => .array .int
  | 10 => .array .int
  | 11 => .array .int
  | 12 => .int
  | 13 => .int
  | 14 => .int
  | 15 => .int
  | 16 => .int
  | 17 => .array .int
  | 18 => .array .boolean
  | 19 => .array .int
  | 20 => .array .int
  | 21 => .array .int
  | 22 => .array .int
  | 23 => .array .int
  | 24 => .array .boolean
  | 25 => .array .boolean
  | 26 => .array .int
  | 27 => .array .int
  | 28 => .array .int
  | 29 => .array .int
  | 30 => .array .int
  | 31 => .array .int
  | 32 => .array .int
  | 33 => .array .int
  | 34 => .array .int
  | 35 => .array .long
  | 36 => .int
  | _ => .array .long
abbrev wsX90 : List Cond := u_ws RX9 TX9 38
theorem nmX9 : ∀ a, a < 38 → ∀ b, b < 38 → a ≠ b → (TX9 a).2.1 ≠ (TX9 b).2.1 := by decide +kernel
theorem tyX9_ok : ∀ k, k < 38 → parseFieldDescriptor (TX9 k).2.2.1 = some (tyX9 k) := by decide +kernel
abbrev cX9_init : ByteArray := prog_11_method_1_code
def yX9_init : MethodName := ⟨RX9, "<init>", "()V"⟩
abbrev cX9_in : ByteArray := prog_11_method_3_code
def yX9_in : MethodName := ⟨RX9, "in", "(III)Z"⟩
abbrev cX9_type : ByteArray := prog_11_method_4_code
def yX9_type : MethodName := ⟨RX9, "type", "(JI)I"⟩
abbrev cX9_clear : ByteArray := prog_11_method_5_code
def yX9_clear : MethodName := ⟨RX9, "clear", "()I"⟩
abbrev cX9_here : ByteArray := prog_11_method_6_code
def yX9_here : MethodName := ⟨RX9, "here", "()I"⟩
abbrev cX9_mean : ByteArray := prog_11_method_7_code
def yX9_mean : MethodName := ⟨RX9, "mean", "(I)I"⟩
abbrev cX9_read : ByteArray := prog_11_method_8_code
def yX9_read : MethodName := ⟨RX9, "read", "()V"⟩
abbrev cX9_due : ByteArray := prog_11_method_9_code
def yX9_due : MethodName := ⟨RX9, "due", "(Z)I"⟩
abbrev cX9_number : ByteArray := prog_11_method_10_code
def yX9_number : MethodName := ⟨RX9, "number", "(II)I"⟩
abbrev cX9_readSort : ByteArray := prog_11_method_11_code
def yX9_readSort : MethodName := ⟨RX9, "readSort", "()V"⟩
abbrev cX9_item : ByteArray := prog_11_method_12_code
def yX9_item : MethodName := ⟨RX9, "item", "(II)V"⟩
abbrev cX9_cellar : ByteArray := prog_11_method_13_code
def yX9_cellar : MethodName := ⟨RX9, "cellar", "()I"⟩
abbrev cX9_begin : ByteArray := prog_11_method_14_code
def yX9_begin : MethodName := ⟨RX9, "begin", "()V"⟩
abbrev cX9_isWheel : ByteArray := prog_11_method_15_code
def yX9_isWheel : MethodName := ⟨RX9, "isWheel", "(I)Z"⟩
abbrev cX9_isOver : ByteArray := prog_11_method_16_code
def yX9_isOver : MethodName := ⟨RX9, "isOver", "()Z"⟩
abbrev cX9_goodOf : ByteArray := prog_11_method_17_code
def yX9_goodOf : MethodName := ⟨RX9, "goodOf", "(II)I"⟩
abbrev cX9_warmth : ByteArray := prog_11_method_18_code
def yX9_warmth : MethodName := ⟨RX9, "warmth", "(I)I"⟩
abbrev cX9_goes : ByteArray := prog_11_method_19_code
def yX9_goes : MethodName := ⟨RX9, "goes", "(IIII)I"⟩
abbrev cX9_sort : ByteArray := prog_11_method_20_code
def yX9_sort : MethodName := ⟨RX9, "sort", "(II)I"⟩
abbrev cX9_wheel : ByteArray := prog_11_method_21_code
def yX9_wheel : MethodName := ⟨RX9, "wheel", "(II)I"⟩
abbrev cX9_week : ByteArray := prog_11_method_22_code
def yX9_week : MethodName := ⟨RX9, "week", "(II)I"⟩
abbrev cX9_place : ByteArray := prog_11_method_23_code
def yX9_place : MethodName := ⟨RX9, "place", "(III)I"⟩
abbrev cX9_stateNow : ByteArray := prog_11_method_24_code
def yX9_stateNow : MethodName := ⟨RX9, "stateNow", "()I"⟩
abbrev cX9_codeOf : ByteArray := prog_11_method_25_code
def yX9_codeOf : MethodName := ⟨RX9, "codeOf", "(II)I"⟩
abbrev cX9_isOpenIn : ByteArray := prog_11_method_26_code
def yX9_isOpenIn : MethodName := ⟨RX9, "isOpenIn", "(II)Z"⟩
abbrev cX9_mayEat : ByteArray := prog_11_method_27_code
def yX9_mayEat : MethodName := ⟨RX9, "mayEat", "(II)Z"⟩
abbrev cX9_maySell : ByteArray := prog_11_method_28_code
def yX9_maySell : MethodName := ⟨RX9, "maySell", "(II)Z"⟩
abbrev cX9_mayDo : ByteArray := prog_11_method_29_code
def yX9_mayDo : MethodName := ⟨RX9, "mayDo", "(II)Z"⟩
abbrev cX9_hadBy : ByteArray := prog_11_method_30_code
def yX9_hadBy : MethodName := ⟨RX9, "hadBy", "(III)I"⟩
abbrev cX9_behind : ByteArray := prog_11_method_31_code
def yX9_behind : MethodName := ⟨RX9, "behind", "(II)I"⟩
abbrev cX9_eat : ByteArray := prog_11_method_32_code
def yX9_eat : MethodName := ⟨RX9, "eat", "(I)I"⟩
abbrev cX9_sell : ByteArray := prog_11_method_33_code
def yX9_sell : MethodName := ⟨RX9, "sell", "(I)I"⟩
abbrev cX9_stop : ByteArray := prog_11_method_34_code
def yX9_stop : MethodName := ⟨RX9, "stop", "(I)I"⟩
abbrev cX9_goNext : ByteArray := prog_11_method_35_code
def yX9_goNext : MethodName := ⟨RX9, "goNext", "()I"⟩
abbrev cX9_next : ByteArray := prog_11_method_36_code
def yX9_next : MethodName := ⟨RX9, "next", "()I"⟩
abbrev cX9_now : ByteArray := prog_11_method_37_code
def yX9_now : MethodName := ⟨RX9, "now", "(I)I"⟩
abbrev cX9_lot : ByteArray := prog_11_method_38_code
def yX9_lot : MethodName := ⟨RX9, "lot", "(I)I"⟩
abbrev cX9_meanOf : ByteArray := prog_11_method_39_code
def yX9_meanOf : MethodName := ⟨RX9, "meanOf", "(IIZ)I"⟩
abbrev cX9_tenths : ByteArray := prog_11_method_40_code
def yX9_tenths : MethodName := ⟨RX9, "tenths", "(III)I"⟩
abbrev cX9_bringsBy : ByteArray := prog_11_method_41_code
def yX9_bringsBy : MethodName := ⟨RX9, "bringsBy", "(III)I"⟩
abbrev cX9_choose : ByteArray := prog_11_method_42_code
def yX9_choose : MethodName := ⟨RX9, "choose", "(III)I"⟩
abbrev cX9_isState : ByteArray := prog_11_method_43_code
def yX9_isState : MethodName := ⟨RX9, "isState", "(I)Z"⟩
abbrev cX9_work : ByteArray := prog_11_method_44_code
def yX9_work : MethodName := ⟨RX9, "work", "(II)V"⟩
abbrev cX9_isRule : ByteArray := prog_11_method_45_code
def yX9_isRule : MethodName := ⟨RX9, "isRule", "(I)Z"⟩
abbrev cX9_chooseNow : ByteArray := prog_11_method_46_code
def yX9_chooseNow : MethodName := ⟨RX9, "chooseNow", "(I)I"⟩
abbrev cX9_valueNow : ByteArray := prog_11_method_47_code
def yX9_valueNow : MethodName := ⟨RX9, "valueNow", "(I)I"⟩
abbrev cX9_value : ByteArray := prog_11_method_48_code
def yX9_value : MethodName := ⟨RX9, "value", "(I)I"⟩
abbrev cX9_left : ByteArray := prog_11_method_49_code
def yX9_left : MethodName := ⟨RX9, "left", "(I)I"⟩
abbrev cX9_choice : ByteArray := prog_11_method_50_code
def yX9_choice : MethodName := ⟨RX9, "choice", "(I)I"⟩
abbrev cX9_brings : ByteArray := prog_11_method_51_code
def yX9_brings : MethodName := ⟨RX9, "brings", "(I)I"⟩
abbrev cX9_play : ByteArray := prog_11_method_52_code
def yX9_play : MethodName := ⟨RX9, "play", "(I)I"⟩
abbrev cX9_age : ByteArray := prog_11_method_53_code
def yX9_age : MethodName := ⟨RX9, "age", "(IZI)V"⟩
abbrev cX9_gainOf : ByteArray := prog_11_method_54_code
def yX9_gainOf : MethodName := ⟨RX9, "gainOf", "(III)I"⟩
abbrev cX9_firstWeek : ByteArray := prog_11_method_55_code
def yX9_firstWeek : MethodName := ⟨RX9, "firstWeek", "()I"⟩
abbrev cX9_mayBlind : ByteArray := prog_11_method_56_code
def yX9_mayBlind : MethodName := ⟨RX9, "mayBlind", "(I)Z"⟩
abbrev cX9_findRow : ByteArray := prog_11_method_57_code
def yX9_findRow : MethodName := ⟨RX9, "findRow", "()I"⟩
abbrev cX9_gainIn : ByteArray := prog_11_method_58_code
def yX9_gainIn : MethodName := ⟨RX9, "gainIn", "(II)I"⟩
abbrev cX9_eatBlind : ByteArray := prog_11_method_59_code
def yX9_eatBlind : MethodName := ⟨RX9, "eatBlind", "(II)I"⟩
abbrev cX9_undo : ByteArray := prog_11_method_60_code
def yX9_undo : MethodName := ⟨RX9, "undo", "(II)I"⟩
abbrev cX9_blind : ByteArray := prog_11_method_61_code
def yX9_blind : MethodName := ⟨RX9, "blind", "(I)I"⟩
abbrev cX9_know : ByteArray := prog_11_method_62_code
def yX9_know : MethodName := ⟨RX9, "know", "()I"⟩
abbrev cX9_blindNow : ByteArray := prog_11_method_63_code
def yX9_blindNow : MethodName := ⟨RX9, "blindNow", "()I"⟩
abbrev cX9_spare : ByteArray := prog_11_method_64_code
def yX9_spare : MethodName := ⟨RX9, "spare", "(I)I"⟩
abbrev cX9_common : ByteArray := prog_11_method_65_code
def yX9_common : MethodName := ⟨RX9, "common", "(JJ)J"⟩
abbrev cX9_inLeast : ByteArray := prog_11_method_66_code
def yX9_inLeast : MethodName := ⟨RX9, "inLeast", "(JJI)J"⟩
abbrev cX9_stands : ByteArray := prog_11_method_67_code
def yX9_stands : MethodName := ⟨RX9, "stands", "(IIII)J"⟩
abbrev cX9_think : ByteArray := prog_11_method_68_code
def yX9_think : MethodName := ⟨RX9, "think", "(I)V"⟩
abbrev cX9_thought : ByteArray := prog_11_method_69_code
def yX9_thought : MethodName := ⟨RX9, "thought", "(I)I"⟩
abbrev cX9_settle : ByteArray := prog_11_method_70_code
def yX9_settle : MethodName := ⟨RX9, "settle", "()I"⟩
abbrev cX9_aged : ByteArray := prog_11_method_71_code
def yX9_aged : MethodName := ⟨RX9, "aged", "()I"⟩
abbrev cX9_shown : ByteArray := prog_11_method_72_code
def yX9_shown : MethodName := ⟨RX9, "shown", "(I)I"⟩
abbrev cX9_thinks : ByteArray := prog_11_method_73_code
def yX9_thinks : MethodName := ⟨RX9, "thinks", "(II)J"⟩
abbrev cX9_note : ByteArray := prog_11_method_74_code
def yX9_note : MethodName := ⟨RX9, "note", "(II)I"⟩
abbrev cX9_copy : ByteArray := prog_11_method_75_code
def yX9_copy : MethodName := ⟨RX9, "copy", "(II)V"⟩
abbrev cX9_keep : ByteArray := prog_11_method_76_code
def yX9_keep : MethodName := ⟨RX9, "keep", "(I)I"⟩
abbrev cX9_back : ByteArray := prog_11_method_77_code
def yX9_back : MethodName := ⟨RX9, "back", "(I)I"⟩
abbrev cX9_count : ByteArray := prog_11_method_78_code
def yX9_count : MethodName := ⟨RX9, "count", "(I)I"⟩
abbrev cX9_trace : ByteArray := prog_11_method_79_code
def yX9_trace : MethodName := ⟨RX9, "trace", "()J"⟩
def RJx145de : String := "java/io/Serializable"
def TJx145de : u_T := fun k => match k with
  | _ => ("", "", "", false)
def tyJx145de : Nat → FieldType := fun k => match k with
  | _ => .int
abbrev wsJx145de0 : List Cond := u_ws RJx145de TJx145de 0
theorem nmJx145de : ∀ a, a < 0 → ∀ b, b < 0 → a ≠ b → (TJx145de a).2.1 ≠ (TJx145de b).2.1 := by decide +kernel
theorem tyJx145de_ok : ∀ k, k < 0 → parseFieldDescriptor (TJx145de k).2.2.1 = some (tyJx145de k) := by decide +kernel
def RJx9f9b0 : String := "java/lang/CharSequence"
def TJx9f9b0 : u_T := fun k => match k with
  | _ => ("", "", "", false)
def tyJx9f9b0 : Nat → FieldType := fun k => match k with
  | _ => .int
abbrev wsJx9f9b00 : List Cond := u_ws RJx9f9b0 TJx9f9b0 0
theorem nmJx9f9b0 : ∀ a, a < 0 → ∀ b, b < 0 → a ≠ b → (TJx9f9b0 a).2.1 ≠ (TJx9f9b0 b).2.1 := by decide +kernel
theorem tyJx9f9b0_ok : ∀ k, k < 0 → parseFieldDescriptor (TJx9f9b0 k).2.2.1 = some (tyJx9f9b0 k) := by decide +kernel
def RJxb160c : String := "java/lang/Comparable"
def TJxb160c : u_T := fun k => match k with
  | _ => ("", "", "", false)
def tyJxb160c : Nat → FieldType := fun k => match k with
  | _ => .int
abbrev wsJxb160c0 : List Cond := u_ws RJxb160c TJxb160c 0
theorem nmJxb160c : ∀ a, a < 0 → ∀ b, b < 0 → a ≠ b → (TJxb160c a).2.1 ≠ (TJxb160c b).2.1 := by decide +kernel
theorem tyJxb160c_ok : ∀ k, k < 0 → parseFieldDescriptor (TJxb160c k).2.2.1 = some (tyJxb160c k) := by decide +kernel
def RJ9 : String := "java/lang/Math"
def TJ9 : u_T := fun k => match k with
  | _ => ("", "", "", false)
def tyJ9 : Nat → FieldType := fun k => match k with
  | _ => .int
abbrev wsJ90 : List Cond := u_ws RJ9 TJ9 0
theorem nmJ9 : ∀ a, a < 0 → ∀ b, b < 0 → a ≠ b → (TJ9 a).2.1 ≠ (TJ9 b).2.1 := by decide +kernel
theorem tyJ9_ok : ∀ k, k < 0 → parseFieldDescriptor (TJ9 k).2.2.1 = some (tyJ9 k) := by decide +kernel
abbrev cJ9_max_7cf53 : ByteArray := prog_12_method_65_code
def yJ9_max_7cf53 : MethodName := ⟨RJ9, "max", "(II)I"⟩
abbrev cJ9_max_f86c9 : ByteArray := prog_12_method_66_code
def yJ9_max_f86c9 : MethodName := ⟨RJ9, "max", "(JJ)J"⟩
abbrev cJ9_min_7cf53 : ByteArray := prog_12_method_69_code
def yJ9_min_7cf53 : MethodName := ⟨RJ9, "min", "(II)I"⟩
def RJ0 : String := "java/lang/String"
def TJ0 : u_T := fun k => match k with
  | _ => ("", "", "", false)
def tyJ0 : Nat → FieldType := fun k => match k with
  | _ => .int
abbrev wsJ00 : List Cond := u_ws RJ0 TJ0 0
theorem nmJ0 : ∀ a, a < 0 → ∀ b, b < 0 → a ≠ b → (TJ0 a).2.1 ≠ (TJ0 b).2.1 := by decide +kernel
theorem tyJ0_ok : ∀ k, k < 0 → parseFieldDescriptor (TJ0 k).2.2.1 = some (tyJ0 k) := by decide +kernel
abbrev cJ0_length_8abf5 : ByteArray := prog_13_method_54_code
def yJ0_length_8abf5 : MethodName := ⟨RJ0, "length", "()I"⟩
abbrev cJ0_charAt_5068e : ByteArray := prog_13_method_56_code
def yJ0_charAt_5068e : MethodName := ⟨RJ0, "charAt", "(I)C"⟩
abbrev cJ0_coder_7d493 : ByteArray := prog_13_method_152_code
def yJ0_coder_7d493 : MethodName := ⟨RJ0, "coder", "()B"⟩
abbrev cJ0_isLatin1_aae02 : ByteArray := prog_13_method_154_code
def yJ0_isLatin1_aae02 : MethodName := ⟨RJ0, "isLatin1", "()Z"⟩
abbrev cJ0_checkIndex_df160 : ByteArray := prog_13_method_155_code
def yJ0_checkIndex_df160 : MethodName := ⟨RJ0, "checkIndex", "(II)V"⟩
def RJ1 : String := "java/lang/StringLatin1"
def TJ1 : u_T := fun k => match k with
  | _ => ("", "", "", false)
def tyJ1 : Nat → FieldType := fun k => match k with
  | _ => .int
abbrev wsJ10 : List Cond := u_ws RJ1 TJ1 0
theorem nmJ1 : ∀ a, a < 0 → ∀ b, b < 0 → a ≠ b → (TJ1 a).2.1 ≠ (TJ1 b).2.1 := by decide +kernel
theorem tyJ1_ok : ∀ k, k < 0 → parseFieldDescriptor (TJ1 k).2.2.1 = some (tyJ1 k) := by decide +kernel
abbrev cJ1_charAt_3b067 : ByteArray := prog_14_method_2_code
def yJ1_charAt_3b067 : MethodName := ⟨RJ1, "charAt", "([BI)C"⟩
def RJ2 : String := "java/lang/StringUTF16"
def TJ2 : u_T := fun k => match k with
  | _ => ("", "", "", false)
def tyJ2 : Nat → FieldType := fun k => match k with
  | _ => .int
abbrev wsJ20 : List Cond := u_ws RJ2 TJ2 0
theorem nmJ2 : ∀ a, a < 0 → ∀ b, b < 0 → a ≠ b → (TJ2 a).2.1 ≠ (TJ2 b).2.1 := by decide +kernel
theorem tyJ2_ok : ∀ k, k < 0 → parseFieldDescriptor (TJ2 k).2.2.1 = some (tyJ2 k) := by decide +kernel
abbrev cJ2_getChar_3b067 : ByteArray := prog_15_method_5_code
def yJ2_getChar_3b067 : MethodName := ⟨RJ2, "getChar", "([BI)C"⟩
abbrev cJ2_length_9d52b : ByteArray := prog_15_method_6_code
def yJ2_length_9d52b : MethodName := ⟨RJ2, "length", "([B)I"⟩
abbrev cJ2_charAt_3b067 : ByteArray := prog_15_method_83_code
def yJ2_charAt_3b067 : MethodName := ⟨RJ2, "charAt", "([BI)C"⟩
abbrev cJ2_checkIndex_2214a : ByteArray := prog_15_method_91_code
def yJ2_checkIndex_2214a : MethodName := ⟨RJ2, "checkIndex", "(I[B)V"⟩
def RJ10 : String := "java/lang/System"
def TJ10 : u_T := fun k => match k with
  | _ => ("", "", "", false)
def tyJ10 : Nat → FieldType := fun k => match k with
  | _ => .int
abbrev wsJ100 : List Cond := u_ws RJ10 TJ10 0
theorem nmJ10 : ∀ a, a < 0 → ∀ b, b < 0 → a ≠ b → (TJ10 a).2.1 ≠ (TJ10 b).2.1 := by decide +kernel
theorem tyJ10_ok : ∀ k, k < 0 → parseFieldDescriptor (TJ10 k).2.2.1 = some (tyJ10 k) := by decide +kernel
def RJxfd54e : String := "java/lang/constant/Constable"
def TJxfd54e : u_T := fun k => match k with
  | _ => ("", "", "", false)
def tyJxfd54e : Nat → FieldType := fun k => match k with
  | _ => .int
abbrev wsJxfd54e0 : List Cond := u_ws RJxfd54e TJxfd54e 0
theorem nmJxfd54e : ∀ a, a < 0 → ∀ b, b < 0 → a ≠ b → (TJxfd54e a).2.1 ≠ (TJxfd54e b).2.1 := by decide +kernel
theorem tyJxfd54e_ok : ∀ k, k < 0 → parseFieldDescriptor (TJxfd54e k).2.2.1 = some (tyJxfd54e k) := by decide +kernel
def RJx3cf43 : String := "java/lang/constant/ConstantDesc"
def TJx3cf43 : u_T := fun k => match k with
  | _ => ("", "", "", false)
def tyJx3cf43 : Nat → FieldType := fun k => match k with
  | _ => .int
abbrev wsJx3cf430 : List Cond := u_ws RJx3cf43 TJx3cf43 0
theorem nmJx3cf43 : ∀ a, a < 0 → ∀ b, b < 0 → a ≠ b → (TJx3cf43 a).2.1 ≠ (TJx3cf43 b).2.1 := by decide +kernel
theorem tyJx3cf43_ok : ∀ k, k < 0 → parseFieldDescriptor (TJx3cf43 k).2.2.1 = some (tyJx3cf43 k) := by decide +kernel
def RJ7 : String := "java/util/Arrays"
def TJ7 : u_T := fun k => match k with
  | _ => ("", "", "", false)
def tyJ7 : Nat → FieldType := fun k => match k with
  | _ => .int
abbrev wsJ70 : List Cond := u_ws RJ7 TJ7 0
theorem nmJ7 : ∀ a, a < 0 → ∀ b, b < 0 → a ≠ b → (TJ7 a).2.1 ≠ (TJ7 b).2.1 := by decide +kernel
theorem tyJ7_ok : ∀ k, k < 0 → parseFieldDescriptor (TJ7 k).2.2.1 = some (tyJ7 k) := by decide +kernel
abbrev cJ7_fill_53178 : ByteArray := prog_17_method_103_code
def yJ7_fill_53178 : MethodName := ⟨RJ7, "fill", "([II)V"⟩
def RJ3 : String := "jdk/internal/util/Preconditions"
def TJ3 : u_T := fun k => match k with
  | _ => ("", "", "", false)
def tyJ3 : Nat → FieldType := fun k => match k with
  | _ => .int
abbrev wsJ30 : List Cond := u_ws RJ3 TJ3 0
theorem nmJ3 : ∀ a, a < 0 → ∀ b, b < 0 → a ≠ b → (TJ3 a).2.1 ≠ (TJ3 b).2.1 := by decide +kernel
theorem tyJ3_ok : ∀ k, k < 0 → parseFieldDescriptor (TJ3 k).2.2.1 = some (tyJ3 k) := by decide +kernel
abbrev cJ3_checkIndex_8e157 : ByteArray := prog_18_method_11_code
def yJ3_checkIndex_8e157 : MethodName := ⟨RJ3, "checkIndex", "(IILjava/util/function/BiFunction;)I"⟩
def RL : String := "CheeseFirstLaw"
abbrev cL_law : ByteArray := code
def yL_law : MethodName := ⟨RL, "law", "([I)Z"⟩
abbrev vwCl : List vw_C := [(RX0, TX0, 16), (RX1, TX1, 9), (RX2, TX2, 2), (RX3, TX3, 8), (RX4, TX4, 9), (RX5, TX5, 1), (RX6, TX6, 4), (RX7, TX7, 8), (RX8, TX8, 14), (RX9, TX9, 38)]
end
section
theorem dX0_init_0 : decode cX0_init 0 = .ok (.aload_n 0, 1) := by decide +kernel
theorem dX0_init_1 : decode cX0_init 1 = .ok (.invokespecial 3, 3) := by decide +kernel
theorem dX0_init_4 : decode cX0_init 4 = .ok (.aload_n 0, 1) := by decide +kernel
theorem dX0_init_5 : decode cX0_init 5 = .ok (.new 9, 3) := by decide +kernel
theorem dX0_init_8 : decode cX0_init 8 = .ok (.dup, 1) := by decide +kernel
theorem dX0_init_9 : decode cX0_init 9 = .ok (.invokespecial 11, 3) := by decide +kernel
theorem dX0_init_12 : decode cX0_init 12 = .ok (.putfield 12, 3) := by decide +kernel
theorem dX0_init_15 : decode cX0_init 15 = .ok (.aload_n 0, 1) := by decide +kernel
theorem dX0_init_16 : decode cX0_init 16 = .ok (.new 9, 3) := by decide +kernel
theorem dX0_init_19 : decode cX0_init 19 = .ok (.dup, 1) := by decide +kernel
theorem dX0_init_20 : decode cX0_init 20 = .ok (.invokespecial 11, 3) := by decide +kernel
theorem dX0_init_23 : decode cX0_init 23 = .ok (.putfield 18, 3) := by decide +kernel
theorem dX0_init_26 : decode cX0_init 26 = .ok (.aload_n 0, 1) := by decide +kernel
theorem dX0_init_27 : decode cX0_init 27 = .ok (.sipush 192, 3) := by decide +kernel
theorem dX0_init_30 : decode cX0_init 30 = .ok (.newarray .int, 2) := by decide +kernel
theorem dX0_init_32 : decode cX0_init 32 = .ok (.putfield 21, 3) := by decide +kernel
theorem dX0_init_35 : decode cX0_init 35 = .ok (.aload_n 0, 1) := by decide +kernel
theorem dX0_init_36 : decode cX0_init 36 = .ok (.bipush 9, 2) := by decide +kernel
theorem dX0_init_38 : decode cX0_init 38 = .ok (.newarray .int, 2) := by decide +kernel
theorem dX0_init_40 : decode cX0_init 40 = .ok (.putfield 25, 3) := by decide +kernel
theorem dX0_init_43 : decode cX0_init 43 = .ok (.aload_n 0, 1) := by decide +kernel
theorem dX0_init_44 : decode cX0_init 44 = .ok (.iconst 3, 1) := by decide +kernel
theorem dX0_init_45 : decode cX0_init 45 = .ok (.newarray .int, 2) := by decide +kernel
theorem dX0_init_47 : decode cX0_init 47 = .ok (.putfield 28, 3) := by decide +kernel
theorem dX0_init_50 : decode cX0_init 50 = .ok (.aload_n 0, 1) := by decide +kernel
theorem dX0_init_51 : decode cX0_init 51 = .ok (.bipush 8, 2) := by decide +kernel
theorem dX0_init_53 : decode cX0_init 53 = .ok (.newarray .int, 2) := by decide +kernel
theorem dX0_init_55 : decode cX0_init 55 = .ok (.putfield 31, 3) := by decide +kernel
theorem dX0_init_58 : decode cX0_init 58 = .ok (.aload_n 0, 1) := by decide +kernel
theorem dX0_init_59 : decode cX0_init 59 = .ok (.bipush 8, 2) := by decide +kernel
theorem dX0_init_61 : decode cX0_init 61 = .ok (.newarray .int, 2) := by decide +kernel
theorem dX0_init_63 : decode cX0_init 63 = .ok (.putfield 34, 3) := by decide +kernel
theorem dX0_init_66 : decode cX0_init 66 = .ok (.aload_n 0, 1) := by decide +kernel
theorem dX0_init_67 : decode cX0_init 67 = .ok (.iconst 0, 1) := by decide +kernel
theorem dX0_init_68 : decode cX0_init 68 = .ok (.putfield 37, 3) := by decide +kernel
theorem dX0_init_71 : decode cX0_init 71 = .ok (.aload_n 0, 1) := by decide +kernel
theorem dX0_init_72 : decode cX0_init 72 = .ok (.iconst 0, 1) := by decide +kernel
theorem dX0_init_73 : decode cX0_init 73 = .ok (.putfield 41, 3) := by decide +kernel
theorem dX0_init_76 : decode cX0_init 76 = .ok (.aload_n 0, 1) := by decide +kernel
theorem dX0_init_77 : decode cX0_init 77 = .ok (.iconst 0, 1) := by decide +kernel
theorem dX0_init_78 : decode cX0_init 78 = .ok (.putfield 44, 3) := by decide +kernel
theorem dX0_init_81 : decode cX0_init 81 = .ok (.aload_n 0, 1) := by decide +kernel
theorem dX0_init_82 : decode cX0_init 82 = .ok (.iconst 0, 1) := by decide +kernel
theorem dX0_init_83 : decode cX0_init 83 = .ok (.putfield 47, 3) := by decide +kernel
theorem dX0_init_86 : decode cX0_init 86 = .ok (.aload_n 0, 1) := by decide +kernel
theorem dX0_init_87 : decode cX0_init 87 = .ok (.iconst 0, 1) := by decide +kernel
theorem dX0_init_88 : decode cX0_init 88 = .ok (.putfield 51, 3) := by decide +kernel
theorem dX0_init_91 : decode cX0_init 91 = .ok (.aload_n 0, 1) := by decide +kernel
theorem dX0_init_92 : decode cX0_init 92 = .ok (.iconst 0, 1) := by decide +kernel
theorem dX0_init_93 : decode cX0_init 93 = .ok (.putfield 54, 3) := by decide +kernel
theorem dX0_init_96 : decode cX0_init 96 = .ok (.aload_n 0, 1) := by decide +kernel
theorem dX0_init_97 : decode cX0_init 97 = .ok (.iconst 0, 1) := by decide +kernel
theorem dX0_init_98 : decode cX0_init 98 = .ok (.putfield 57, 3) := by decide +kernel
theorem dX0_init_101 : decode cX0_init 101 = .ok (.aload_n 0, 1) := by decide +kernel
theorem dX0_init_102 : decode cX0_init 102 = .ok (.iconst 0, 1) := by decide +kernel
theorem dX0_init_103 : decode cX0_init 103 = .ok (.putfield 60, 3) := by decide +kernel
theorem dX0_init_106 : decode cX0_init 106 = .ok (.aload_n 0, 1) := by decide +kernel
theorem dX0_init_107 : decode cX0_init 107 = .ok (.aload_n 1, 1) := by decide +kernel
theorem dX0_init_108 : decode cX0_init 108 = .ok (.putfield 63, 3) := by decide +kernel
theorem dX0_init_111 : decode cX0_init 111 = .ok (.return_, 1) := by decide +kernel
theorem dX0_forgetAll_0 : decode cX0_forgetAll 0 = .ok (.aload_n 0, 1) := by decide +kernel
theorem dX0_forgetAll_1 : decode cX0_forgetAll 1 = .ok (.iconst 0, 1) := by decide +kernel
theorem dX0_forgetAll_2 : decode cX0_forgetAll 2 = .ok (.putfield 47, 3) := by decide +kernel
theorem dX0_forgetAll_5 : decode cX0_forgetAll 5 = .ok (.return_, 1) := by decide +kernel
theorem dX0_codeAt_0 : decode cX0_codeAt 0 = .ok (.iload_n 1, 1) := by decide +kernel
theorem dX0_codeAt_1 : decode cX0_codeAt 1 = .ok (.ifCond .lt 18, 3) := by decide +kernel
theorem dX0_codeAt_4 : decode cX0_codeAt 4 = .ok (.iload_n 1, 1) := by decide +kernel
theorem dX0_codeAt_5 : decode cX0_codeAt 5 = .ok (.bipush 8, 2) := by decide +kernel
theorem dX0_codeAt_7 : decode cX0_codeAt 7 = .ok (.if_icmp .ge 12, 3) := by decide +kernel
theorem dX0_codeAt_10 : decode cX0_codeAt 10 = .ok (.aload_n 0, 1) := by decide +kernel
theorem dX0_codeAt_11 : decode cX0_codeAt 11 = .ok (.getfield 34, 3) := by decide +kernel
theorem dX0_codeAt_14 : decode cX0_codeAt 14 = .ok (.iload_n 1, 1) := by decide +kernel
theorem dX0_codeAt_15 : decode cX0_codeAt 15 = .ok (.iaload, 1) := by decide +kernel
theorem dX0_codeAt_16 : decode cX0_codeAt 16 = .ok (.goto 5, 3) := by decide +kernel
theorem dX0_codeAt_19 : decode cX0_codeAt 19 = .ok (.bipush 6, 2) := by decide +kernel
theorem dX0_codeAt_21 : decode cX0_codeAt 21 = .ok (.ireturn, 1) := by decide +kernel
theorem dX0_lookFrom_0 : decode cX0_lookFrom 0 = .ok (.aload_n 0, 1) := by decide +kernel
theorem dX0_lookFrom_1 : decode cX0_lookFrom 1 = .ok (.getfield 47, 3) := by decide +kernel
theorem dX0_lookFrom_4 : decode cX0_lookFrom 4 = .ok (.ifCond .eq 48, 3) := by decide +kernel
theorem dX0_lookFrom_7 : decode cX0_lookFrom 7 = .ok (.aload_n 0, 1) := by decide +kernel
theorem dX0_lookFrom_8 : decode cX0_lookFrom 8 = .ok (.getfield 51, 3) := by decide +kernel
theorem dX0_lookFrom_11 : decode cX0_lookFrom 11 = .ok (.aload_n 1, 1) := by decide +kernel
theorem dX0_lookFrom_12 : decode cX0_lookFrom 12 = .ok (.getfield 67, 3) := by decide +kernel
theorem dX0_lookFrom_15 : decode cX0_lookFrom 15 = .ok (.if_icmp .ne 37, 3) := by decide +kernel
theorem dX0_lookFrom_18 : decode cX0_lookFrom 18 = .ok (.aload_n 0, 1) := by decide +kernel
theorem dX0_lookFrom_19 : decode cX0_lookFrom 19 = .ok (.getfield 54, 3) := by decide +kernel
theorem dX0_lookFrom_22 : decode cX0_lookFrom 22 = .ok (.aload_n 1, 1) := by decide +kernel
theorem dX0_lookFrom_23 : decode cX0_lookFrom 23 = .ok (.getfield 72, 3) := by decide +kernel
theorem dX0_lookFrom_26 : decode cX0_lookFrom 26 = .ok (.if_icmp .ne 26, 3) := by decide +kernel
theorem dX0_lookFrom_29 : decode cX0_lookFrom 29 = .ok (.aload_n 0, 1) := by decide +kernel
theorem dX0_lookFrom_30 : decode cX0_lookFrom 30 = .ok (.getfield 57, 3) := by decide +kernel
theorem dX0_lookFrom_33 : decode cX0_lookFrom 33 = .ok (.aload_n 1, 1) := by decide +kernel
theorem dX0_lookFrom_34 : decode cX0_lookFrom 34 = .ok (.getfield 75, 3) := by decide +kernel
theorem dX0_lookFrom_37 : decode cX0_lookFrom 37 = .ok (.if_icmp .ne 15, 3) := by decide +kernel
theorem dX0_lookFrom_40 : decode cX0_lookFrom 40 = .ok (.aload_n 0, 1) := by decide +kernel
theorem dX0_lookFrom_41 : decode cX0_lookFrom 41 = .ok (.getfield 60, 3) := by decide +kernel
theorem dX0_lookFrom_44 : decode cX0_lookFrom 44 = .ok (.aload_n 1, 1) := by decide +kernel
theorem dX0_lookFrom_45 : decode cX0_lookFrom 45 = .ok (.getfield 78, 3) := by decide +kernel
theorem dX0_lookFrom_48 : decode cX0_lookFrom 48 = .ok (.if_icmp .ne 4, 3) := by decide +kernel
theorem dX0_lookFrom_51 : decode cX0_lookFrom 51 = .ok (.return_, 1) := by decide +kernel
theorem dX0_lookFrom_52 : decode cX0_lookFrom 52 = .ok (.aload_n 0, 1) := by decide +kernel
theorem dX0_lookFrom_53 : decode cX0_lookFrom 53 = .ok (.iconst 1, 1) := by decide +kernel
theorem dX0_lookFrom_54 : decode cX0_lookFrom 54 = .ok (.putfield 47, 3) := by decide +kernel
theorem dX0_lookFrom_57 : decode cX0_lookFrom 57 = .ok (.aload_n 0, 1) := by decide +kernel
theorem dX0_lookFrom_58 : decode cX0_lookFrom 58 = .ok (.aload_n 1, 1) := by decide +kernel
theorem dX0_lookFrom_59 : decode cX0_lookFrom 59 = .ok (.getfield 67, 3) := by decide +kernel
theorem dX0_lookFrom_62 : decode cX0_lookFrom 62 = .ok (.putfield 51, 3) := by decide +kernel
theorem dX0_lookFrom_65 : decode cX0_lookFrom 65 = .ok (.aload_n 0, 1) := by decide +kernel
theorem dX0_lookFrom_66 : decode cX0_lookFrom 66 = .ok (.aload_n 1, 1) := by decide +kernel
theorem dX0_lookFrom_67 : decode cX0_lookFrom 67 = .ok (.getfield 72, 3) := by decide +kernel
theorem dX0_lookFrom_70 : decode cX0_lookFrom 70 = .ok (.putfield 54, 3) := by decide +kernel
theorem dX0_lookFrom_73 : decode cX0_lookFrom 73 = .ok (.aload_n 0, 1) := by decide +kernel
theorem dX0_lookFrom_74 : decode cX0_lookFrom 74 = .ok (.aload_n 1, 1) := by decide +kernel
theorem dX0_lookFrom_75 : decode cX0_lookFrom 75 = .ok (.getfield 75, 3) := by decide +kernel
theorem dX0_lookFrom_78 : decode cX0_lookFrom 78 = .ok (.putfield 57, 3) := by decide +kernel
theorem dX0_lookFrom_81 : decode cX0_lookFrom 81 = .ok (.aload_n 0, 1) := by decide +kernel
theorem dX0_lookFrom_82 : decode cX0_lookFrom 82 = .ok (.aload_n 1, 1) := by decide +kernel
theorem dX0_lookFrom_83 : decode cX0_lookFrom 83 = .ok (.getfield 78, 3) := by decide +kernel
theorem dX0_lookFrom_86 : decode cX0_lookFrom 86 = .ok (.putfield 60, 3) := by decide +kernel
theorem dX0_lookFrom_89 : decode cX0_lookFrom 89 = .ok (.aload_n 0, 1) := by decide +kernel
theorem dX0_lookFrom_90 : decode cX0_lookFrom 90 = .ok (.aload_n 1, 1) := by decide +kernel
theorem dX0_lookFrom_91 : decode cX0_lookFrom 91 = .ok (.getfield 72, 3) := by decide +kernel
theorem dX0_lookFrom_94 : decode cX0_lookFrom 94 = .ok (.ifCond .eq 12, 3) := by decide +kernel
theorem dX0_lookFrom_97 : decode cX0_lookFrom 97 = .ok (.aload_n 1, 1) := by decide +kernel
theorem dX0_lookFrom_98 : decode cX0_lookFrom 98 = .ok (.getfield 67, 3) := by decide +kernel
theorem dX0_lookFrom_101 : decode cX0_lookFrom 101 = .ok (.iconst 1, 1) := by decide +kernel
theorem dX0_lookFrom_102 : decode cX0_lookFrom 102 = .ok (.iadd, 1) := by decide +kernel
theorem dX0_lookFrom_103 : decode cX0_lookFrom 103 = .ok (.goto 7, 3) := by decide +kernel
theorem dX0_lookFrom_106 : decode cX0_lookFrom 106 = .ok (.aload_n 1, 1) := by decide +kernel
theorem dX0_lookFrom_107 : decode cX0_lookFrom 107 = .ok (.getfield 67, 3) := by decide +kernel
theorem dX0_lookFrom_110 : decode cX0_lookFrom 110 = .ok (.putfield 44, 3) := by decide +kernel
theorem dX0_lookFrom_113 : decode cX0_lookFrom 113 = .ok (.aload_n 0, 1) := by decide +kernel
theorem dX0_lookFrom_114 : decode cX0_lookFrom 114 = .ok (.iconst 0, 1) := by decide +kernel
theorem dX0_lookFrom_115 : decode cX0_lookFrom 115 = .ok (.aload_n 0, 1) := by decide +kernel
theorem dX0_lookFrom_116 : decode cX0_lookFrom 116 = .ok (.getfield 63, 3) := by decide +kernel
theorem dX0_lookFrom_119 : decode cX0_lookFrom 119 = .ok (.getfield 81, 3) := by decide +kernel
theorem dX0_lookFrom_122 : decode cX0_lookFrom 122 = .ok (.aload_n 0, 1) := by decide +kernel
theorem dX0_lookFrom_123 : decode cX0_lookFrom 123 = .ok (.getfield 44, 3) := by decide +kernel
theorem dX0_lookFrom_126 : decode cX0_lookFrom 126 = .ok (.isub, 1) := by decide +kernel
theorem dX0_lookFrom_127 : decode cX0_lookFrom 127 = .ok (.invokestatic 86, 3) := by decide +kernel
theorem dX0_lookFrom_130 : decode cX0_lookFrom 130 = .ok (.putfield 41, 3) := by decide +kernel
theorem dX0_lookFrom_133 : decode cX0_lookFrom 133 = .ok (.aload_n 0, 1) := by decide +kernel
theorem dX0_lookFrom_134 : decode cX0_lookFrom 134 = .ok (.getfield 21, 3) := by decide +kernel
theorem dX0_lookFrom_137 : decode cX0_lookFrom 137 = .ok (.iconst 0, 1) := by decide +kernel
theorem dX0_lookFrom_138 : decode cX0_lookFrom 138 = .ok (.invokestatic 92, 3) := by decide +kernel
theorem dX0_lookFrom_141 : decode cX0_lookFrom 141 = .ok (.iconst 0, 1) := by decide +kernel
theorem dX0_lookFrom_142 : decode cX0_lookFrom 142 = .ok (.istore_n 2, 1) := by decide +kernel
theorem dX0_lookFrom_143 : decode cX0_lookFrom 143 = .ok (.iload_n 2, 1) := by decide +kernel
theorem dX0_lookFrom_144 : decode cX0_lookFrom 144 = .ok (.aload_n 0, 1) := by decide +kernel
theorem dX0_lookFrom_145 : decode cX0_lookFrom 145 = .ok (.getfield 63, 3) := by decide +kernel
theorem dX0_lookFrom_148 : decode cX0_lookFrom 148 = .ok (.getfield 98, 3) := by decide +kernel
theorem dX0_lookFrom_151 : decode cX0_lookFrom 151 = .ok (.if_icmp .ge 19, 3) := by decide +kernel
theorem dX0_lookFrom_154 : decode cX0_lookFrom 154 = .ok (.iload_n 2, 1) := by decide +kernel
theorem dX0_lookFrom_155 : decode cX0_lookFrom 155 = .ok (.iconst 3, 1) := by decide +kernel
theorem dX0_lookFrom_156 : decode cX0_lookFrom 156 = .ok (.if_icmp .ge 14, 3) := by decide +kernel
theorem dX0_lookFrom_159 : decode cX0_lookFrom 159 = .ok (.aload_n 0, 1) := by decide +kernel
theorem dX0_lookFrom_160 : decode cX0_lookFrom 160 = .ok (.iload_n 2, 1) := by decide +kernel
theorem dX0_lookFrom_161 : decode cX0_lookFrom 161 = .ok (.invokevirtual 101, 3) := by decide +kernel
theorem dX0_lookFrom_164 : decode cX0_lookFrom 164 = .ok (.iinc 2 1, 3) := by decide +kernel
theorem dX0_lookFrom_167 : decode cX0_lookFrom 167 = .ok (.goto (-24), 3) := by decide +kernel
theorem dX0_lookFrom_170 : decode cX0_lookFrom 170 = .ok (.aload_n 0, 1) := by decide +kernel
theorem dX0_lookFrom_171 : decode cX0_lookFrom 171 = .ok (.invokevirtual 105, 3) := by decide +kernel
theorem dX0_lookFrom_174 : decode cX0_lookFrom 174 = .ok (.aload_n 0, 1) := by decide +kernel
theorem dX0_lookFrom_175 : decode cX0_lookFrom 175 = .ok (.iconst (-1), 1) := by decide +kernel
theorem dX0_lookFrom_176 : decode cX0_lookFrom 176 = .ok (.putfield 37, 3) := by decide +kernel
theorem dX0_lookFrom_179 : decode cX0_lookFrom 179 = .ok (.aload_n 0, 1) := by decide +kernel
theorem dX0_lookFrom_180 : decode cX0_lookFrom 180 = .ok (.aload_n 0, 1) := by decide +kernel
theorem dX0_lookFrom_181 : decode cX0_lookFrom 181 = .ok (.getfield 44, 3) := by decide +kernel
theorem dX0_lookFrom_184 : decode cX0_lookFrom 184 = .ok (.aload_n 1, 1) := by decide +kernel
theorem dX0_lookFrom_185 : decode cX0_lookFrom 185 = .ok (.getfield 75, 3) := by decide +kernel
theorem dX0_lookFrom_188 : decode cX0_lookFrom 188 = .ok (.iconst 0, 1) := by decide +kernel
theorem dX0_lookFrom_189 : decode cX0_lookFrom 189 = .ok (.invokevirtual 108, 3) := by decide +kernel
theorem dX0_lookFrom_192 : decode cX0_lookFrom 192 = .ok (.return_, 1) := by decide +kernel
theorem dX0_meanPlace_0 : decode cX0_meanPlace 0 = .ok (.iload_n 0, 1) := by decide +kernel
theorem dX0_meanPlace_1 : decode cX0_meanPlace 1 = .ok (.bipush 8, 2) := by decide +kernel
theorem dX0_meanPlace_3 : decode cX0_meanPlace 3 = .ok (.imul, 1) := by decide +kernel
theorem dX0_meanPlace_4 : decode cX0_meanPlace 4 = .ok (.iload_n 1, 1) := by decide +kernel
theorem dX0_meanPlace_5 : decode cX0_meanPlace 5 = .ok (.iadd, 1) := by decide +kernel
theorem dX0_meanPlace_6 : decode cX0_meanPlace 6 = .ok (.bipush 8, 2) := by decide +kernel
theorem dX0_meanPlace_8 : decode cX0_meanPlace 8 = .ok (.imul, 1) := by decide +kernel
theorem dX0_meanPlace_9 : decode cX0_meanPlace 9 = .ok (.iload_n 2, 1) := by decide +kernel
theorem dX0_meanPlace_10 : decode cX0_meanPlace 10 = .ok (.iadd, 1) := by decide +kernel
theorem dX0_meanPlace_11 : decode cX0_meanPlace 11 = .ok (.ireturn, 1) := by decide +kernel
theorem dX0_meanAt_0 : decode cX0_meanAt 0 = .ok (.iload_n 1, 1) := by decide +kernel
theorem dX0_meanAt_1 : decode cX0_meanAt 1 = .ok (.iload_n 2, 1) := by decide +kernel
theorem dX0_meanAt_2 : decode cX0_meanAt 2 = .ok (.iload_n 3, 1) := by decide +kernel
theorem dX0_meanAt_3 : decode cX0_meanAt 3 = .ok (.invokestatic 112, 3) := by decide +kernel
theorem dX0_meanAt_6 : decode cX0_meanAt 6 = .ok (.istore 4, 2) := by decide +kernel
theorem dX0_meanAt_8 : decode cX0_meanAt 8 = .ok (.iload 4, 2) := by decide +kernel
theorem dX0_meanAt_10 : decode cX0_meanAt 10 = .ok (.ifCond .lt 23, 3) := by decide +kernel
theorem dX0_meanAt_13 : decode cX0_meanAt 13 = .ok (.iload 4, 2) := by decide +kernel
theorem dX0_meanAt_15 : decode cX0_meanAt 15 = .ok (.aload_n 0, 1) := by decide +kernel
theorem dX0_meanAt_16 : decode cX0_meanAt 16 = .ok (.getfield 21, 3) := by decide +kernel
theorem dX0_meanAt_19 : decode cX0_meanAt 19 = .ok (.arraylength, 1) := by decide +kernel
theorem dX0_meanAt_20 : decode cX0_meanAt 20 = .ok (.if_icmp .ge 13, 3) := by decide +kernel
theorem dX0_meanAt_23 : decode cX0_meanAt 23 = .ok (.aload_n 0, 1) := by decide +kernel
theorem dX0_meanAt_24 : decode cX0_meanAt 24 = .ok (.getfield 21, 3) := by decide +kernel
theorem dX0_meanAt_27 : decode cX0_meanAt 27 = .ok (.iload 4, 2) := by decide +kernel
theorem dX0_meanAt_29 : decode cX0_meanAt 29 = .ok (.iaload, 1) := by decide +kernel
theorem dX0_meanAt_30 : decode cX0_meanAt 30 = .ok (.goto 4, 3) := by decide +kernel
theorem dX0_meanAt_33 : decode cX0_meanAt 33 = .ok (.iconst 0, 1) := by decide +kernel
theorem dX0_meanAt_34 : decode cX0_meanAt 34 = .ok (.ireturn, 1) := by decide +kernel
theorem dX0_tellMeans_0 : decode cX0_tellMeans 0 = .ok (.iload_n 1, 1) := by decide +kernel
theorem dX0_tellMeans_1 : decode cX0_tellMeans 1 = .ok (.ifCond .lt 19, 3) := by decide +kernel
theorem dX0_tellMeans_4 : decode cX0_tellMeans 4 = .ok (.iload_n 1, 1) := by decide +kernel
theorem dX0_tellMeans_5 : decode cX0_tellMeans 5 = .ok (.iconst 3, 1) := by decide +kernel
theorem dX0_tellMeans_6 : decode cX0_tellMeans 6 = .ok (.if_icmp .ge 14, 3) := by decide +kernel
theorem dX0_tellMeans_9 : decode cX0_tellMeans 9 = .ok (.aload_n 0, 1) := by decide +kernel
theorem dX0_tellMeans_10 : decode cX0_tellMeans 10 = .ok (.getfield 57, 3) := by decide +kernel
theorem dX0_tellMeans_13 : decode cX0_tellMeans 13 = .ok (.iload_n 1, 1) := by decide +kernel
theorem dX0_tellMeans_14 : decode cX0_tellMeans 14 = .ok (.invokestatic 116, 3) := by decide +kernel
theorem dX0_tellMeans_17 : decode cX0_tellMeans 17 = .ok (.ifCond .ne 4, 3) := by decide +kernel
theorem dX0_tellMeans_20 : decode cX0_tellMeans 20 = .ok (.return_, 1) := by decide +kernel
theorem dX0_tellMeans_21 : decode cX0_tellMeans 21 = .ok (.aload_n 0, 1) := by decide +kernel
theorem dX0_tellMeans_22 : decode cX0_tellMeans 22 = .ok (.getfield 63, 3) := by decide +kernel
theorem dX0_tellMeans_25 : decode cX0_tellMeans 25 = .ok (.aload_n 0, 1) := by decide +kernel
theorem dX0_tellMeans_26 : decode cX0_tellMeans 26 = .ok (.getfield 57, 3) := by decide +kernel
theorem dX0_tellMeans_29 : decode cX0_tellMeans 29 = .ok (.aload_n 0, 1) := by decide +kernel
theorem dX0_tellMeans_30 : decode cX0_tellMeans 30 = .ok (.getfield 60, 3) := by decide +kernel
theorem dX0_tellMeans_33 : decode cX0_tellMeans 33 = .ok (.iload_n 1, 1) := by decide +kernel
theorem dX0_tellMeans_34 : decode cX0_tellMeans 34 = .ok (.invokevirtual 119, 3) := by decide +kernel
theorem dX0_tellMeans_37 : decode cX0_tellMeans 37 = .ok (.istore_n 2, 1) := by decide +kernel
theorem dX0_tellMeans_38 : decode cX0_tellMeans 38 = .ok (.aload_n 0, 1) := by decide +kernel
theorem dX0_tellMeans_39 : decode cX0_tellMeans 39 = .ok (.getfield 12, 3) := by decide +kernel
theorem dX0_tellMeans_42 : decode cX0_tellMeans 42 = .ok (.aload_n 0, 1) := by decide +kernel
theorem dX0_tellMeans_43 : decode cX0_tellMeans 43 = .ok (.getfield 57, 3) := by decide +kernel
theorem dX0_tellMeans_46 : decode cX0_tellMeans 46 = .ok (.iload_n 1, 1) := by decide +kernel
theorem dX0_tellMeans_47 : decode cX0_tellMeans 47 = .ok (.invokestatic 123, 3) := by decide +kernel
theorem dX0_tellMeans_50 : decode cX0_tellMeans 50 = .ok (.invokevirtual 126, 3) := by decide +kernel
theorem dX0_tellMeans_53 : decode cX0_tellMeans 53 = .ok (.aload_n 0, 1) := by decide +kernel
theorem dX0_tellMeans_54 : decode cX0_tellMeans 54 = .ok (.getfield 63, 3) := by decide +kernel
theorem dX0_tellMeans_57 : decode cX0_tellMeans 57 = .ok (.aload_n 0, 1) := by decide +kernel
theorem dX0_tellMeans_58 : decode cX0_tellMeans 58 = .ok (.getfield 57, 3) := by decide +kernel
theorem dX0_tellMeans_61 : decode cX0_tellMeans 61 = .ok (.iload_n 1, 1) := by decide +kernel
theorem dX0_tellMeans_62 : decode cX0_tellMeans 62 = .ok (.invokevirtual 129, 3) := by decide +kernel
theorem dX0_tellMeans_65 : decode cX0_tellMeans 65 = .ok (.ifCond .ne 24, 3) := by decide +kernel
theorem dX0_tellMeans_68 : decode cX0_tellMeans 68 = .ok (.aload_n 0, 1) := by decide +kernel
theorem dX0_tellMeans_69 : decode cX0_tellMeans 69 = .ok (.getfield 28, 3) := by decide +kernel
theorem dX0_tellMeans_72 : decode cX0_tellMeans 72 = .ok (.iload_n 1, 1) := by decide +kernel
theorem dX0_tellMeans_73 : decode cX0_tellMeans 73 = .ok (.aload_n 0, 1) := by decide +kernel
theorem dX0_tellMeans_74 : decode cX0_tellMeans 74 = .ok (.getfield 51, 3) := by decide +kernel
theorem dX0_tellMeans_77 : decode cX0_tellMeans 77 = .ok (.iastore, 1) := by decide +kernel
theorem dX0_tellMeans_78 : decode cX0_tellMeans 78 = .ok (.aload_n 0, 1) := by decide +kernel
theorem dX0_tellMeans_79 : decode cX0_tellMeans 79 = .ok (.iload_n 1, 1) := by decide +kernel
theorem dX0_tellMeans_80 : decode cX0_tellMeans 80 = .ok (.aload_n 0, 1) := by decide +kernel
theorem dX0_tellMeans_81 : decode cX0_tellMeans 81 = .ok (.getfield 51, 3) := by decide +kernel
theorem dX0_tellMeans_84 : decode cX0_tellMeans 84 = .ok (.iload_n 2, 1) := by decide +kernel
theorem dX0_tellMeans_85 : decode cX0_tellMeans 85 = .ok (.invokevirtual 133, 3) := by decide +kernel
theorem dX0_tellMeans_88 : decode cX0_tellMeans 88 = .ok (.return_, 1) := by decide +kernel
theorem dX0_tellMeans_89 : decode cX0_tellMeans 89 = .ok (.aload_n 0, 1) := by decide +kernel
theorem dX0_tellMeans_90 : decode cX0_tellMeans 90 = .ok (.getfield 28, 3) := by decide +kernel
theorem dX0_tellMeans_93 : decode cX0_tellMeans 93 = .ok (.iload_n 1, 1) := by decide +kernel
theorem dX0_tellMeans_94 : decode cX0_tellMeans 94 = .ok (.iconst (-1), 1) := by decide +kernel
theorem dX0_tellMeans_95 : decode cX0_tellMeans 95 = .ok (.iastore, 1) := by decide +kernel
theorem dX0_tellMeans_96 : decode cX0_tellMeans 96 = .ok (.aload_n 0, 1) := by decide +kernel
theorem dX0_tellMeans_97 : decode cX0_tellMeans 97 = .ok (.getfield 51, 3) := by decide +kernel
theorem dX0_tellMeans_100 : decode cX0_tellMeans 100 = .ok (.istore_n 3, 1) := by decide +kernel
theorem dX0_tellMeans_101 : decode cX0_tellMeans 101 = .ok (.iload_n 3, 1) := by decide +kernel
theorem dX0_tellMeans_102 : decode cX0_tellMeans 102 = .ok (.aload_n 0, 1) := by decide +kernel
theorem dX0_tellMeans_103 : decode cX0_tellMeans 103 = .ok (.getfield 63, 3) := by decide +kernel
theorem dX0_tellMeans_106 : decode cX0_tellMeans 106 = .ok (.getfield 81, 3) := by decide +kernel
theorem dX0_tellMeans_109 : decode cX0_tellMeans 109 = .ok (.if_icmp .ge 41, 3) := by decide +kernel
theorem dX0_tellMeans_112 : decode cX0_tellMeans 112 = .ok (.aload_n 0, 1) := by decide +kernel
theorem dX0_tellMeans_113 : decode cX0_tellMeans 113 = .ok (.iload_n 1, 1) := by decide +kernel
theorem dX0_tellMeans_114 : decode cX0_tellMeans 114 = .ok (.iload_n 3, 1) := by decide +kernel
theorem dX0_tellMeans_115 : decode cX0_tellMeans 115 = .ok (.iload_n 2, 1) := by decide +kernel
theorem dX0_tellMeans_116 : decode cX0_tellMeans 116 = .ok (.invokevirtual 133, 3) := by decide +kernel
theorem dX0_tellMeans_119 : decode cX0_tellMeans 119 = .ok (.iload_n 2, 1) := by decide +kernel
theorem dX0_tellMeans_120 : decode cX0_tellMeans 120 = .ok (.ifCond .eq 24, 3) := by decide +kernel
theorem dX0_tellMeans_123 : decode cX0_tellMeans 123 = .ok (.aload_n 0, 1) := by decide +kernel
theorem dX0_tellMeans_124 : decode cX0_tellMeans 124 = .ok (.getfield 12, 3) := by decide +kernel
theorem dX0_tellMeans_127 : decode cX0_tellMeans 127 = .ok (.aload_n 0, 1) := by decide +kernel
theorem dX0_tellMeans_128 : decode cX0_tellMeans 128 = .ok (.getfield 63, 3) := by decide +kernel
theorem dX0_tellMeans_131 : decode cX0_tellMeans 131 = .ok (.aload_n 0, 1) := by decide +kernel
theorem dX0_tellMeans_132 : decode cX0_tellMeans 132 = .ok (.getfield 63, 3) := by decide +kernel
theorem dX0_tellMeans_135 : decode cX0_tellMeans 135 = .ok (.iload_n 1, 1) := by decide +kernel
theorem dX0_tellMeans_136 : decode cX0_tellMeans 136 = .ok (.invokevirtual 137, 3) := by decide +kernel
theorem dX0_tellMeans_139 : decode cX0_tellMeans 139 = .ok (.iconst 0, 1) := by decide +kernel
theorem dX0_tellMeans_140 : decode cX0_tellMeans 140 = .ok (.iload_n 3, 1) := by decide +kernel
theorem dX0_tellMeans_141 : decode cX0_tellMeans 141 = .ok (.invokevirtual 141, 3) := by decide +kernel
theorem dX0_tellMeans_144 : decode cX0_tellMeans 144 = .ok (.iinc 3 1, 3) := by decide +kernel
theorem dX0_tellMeans_147 : decode cX0_tellMeans 147 = .ok (.goto (-46), 3) := by decide +kernel
theorem dX0_tellMeans_150 : decode cX0_tellMeans 150 = .ok (.return_, 1) := by decide +kernel
theorem dX0_tellMeansOfCut_0 : decode cX0_tellMeansOfCut 0 = .ok (.aload_n 0, 1) := by decide +kernel
theorem dX0_tellMeansOfCut_1 : decode cX0_tellMeansOfCut 1 = .ok (.getfield 63, 3) := by decide +kernel
theorem dX0_tellMeansOfCut_4 : decode cX0_tellMeansOfCut 4 = .ok (.iload_n 1, 1) := by decide +kernel
theorem dX0_tellMeansOfCut_5 : decode cX0_tellMeansOfCut 5 = .ok (.invokevirtual 137, 3) := by decide +kernel
theorem dX0_tellMeansOfCut_8 : decode cX0_tellMeansOfCut 8 = .ok (.istore 4, 2) := by decide +kernel
theorem dX0_tellMeansOfCut_10 : decode cX0_tellMeansOfCut 10 = .ok (.aload_n 0, 1) := by decide +kernel
theorem dX0_tellMeansOfCut_11 : decode cX0_tellMeansOfCut 11 = .ok (.getfield 18, 3) := by decide +kernel
theorem dX0_tellMeansOfCut_14 : decode cX0_tellMeansOfCut 14 = .ok (.aload_n 0, 1) := by decide +kernel
theorem dX0_tellMeansOfCut_15 : decode cX0_tellMeansOfCut 15 = .ok (.getfield 12, 3) := by decide +kernel
theorem dX0_tellMeansOfCut_18 : decode cX0_tellMeansOfCut 18 = .ok (.invokevirtual 145, 3) := by decide +kernel
theorem dX0_tellMeansOfCut_21 : decode cX0_tellMeansOfCut 21 = .ok (.iload_n 2, 1) := by decide +kernel
theorem dX0_tellMeansOfCut_22 : decode cX0_tellMeansOfCut 22 = .ok (.istore 5, 2) := by decide +kernel
theorem dX0_tellMeansOfCut_24 : decode cX0_tellMeansOfCut 24 = .ok (.iload 5, 2) := by decide +kernel
theorem dX0_tellMeansOfCut_26 : decode cX0_tellMeansOfCut 26 = .ok (.aload_n 0, 1) := by decide +kernel
theorem dX0_tellMeansOfCut_27 : decode cX0_tellMeansOfCut 27 = .ok (.getfield 63, 3) := by decide +kernel
theorem dX0_tellMeansOfCut_30 : decode cX0_tellMeansOfCut 30 = .ok (.getfield 81, 3) := by decide +kernel
theorem dX0_tellMeansOfCut_33 : decode cX0_tellMeansOfCut 33 = .ok (.if_icmp .ge 97, 3) := by decide +kernel
theorem dX0_tellMeansOfCut_36 : decode cX0_tellMeansOfCut 36 = .ok (.iload_n 1, 1) := by decide +kernel
theorem dX0_tellMeansOfCut_37 : decode cX0_tellMeansOfCut 37 = .ok (.iload_n 2, 1) := by decide +kernel
theorem dX0_tellMeansOfCut_38 : decode cX0_tellMeansOfCut 38 = .ok (.iload 5, 2) := by decide +kernel
theorem dX0_tellMeansOfCut_40 : decode cX0_tellMeansOfCut 40 = .ok (.invokestatic 112, 3) := by decide +kernel
theorem dX0_tellMeansOfCut_43 : decode cX0_tellMeansOfCut 43 = .ok (.istore 6, 2) := by decide +kernel
theorem dX0_tellMeansOfCut_45 : decode cX0_tellMeansOfCut 45 = .ok (.aload_n 0, 1) := by decide +kernel
theorem dX0_tellMeansOfCut_46 : decode cX0_tellMeansOfCut 46 = .ok (.getfield 18, 3) := by decide +kernel
theorem dX0_tellMeansOfCut_49 : decode cX0_tellMeansOfCut 49 = .ok (.invokevirtual 149, 3) := by decide +kernel
theorem dX0_tellMeansOfCut_52 : decode cX0_tellMeansOfCut 52 = .ok (.lstore 7, 2) := by decide +kernel
theorem dX0_tellMeansOfCut_54 : decode cX0_tellMeansOfCut 54 = .ok (.iload 6, 2) := by decide +kernel
theorem dX0_tellMeansOfCut_56 : decode cX0_tellMeansOfCut 56 = .ok (.ifCond .lt 48, 3) := by decide +kernel
theorem dX0_tellMeansOfCut_59 : decode cX0_tellMeansOfCut 59 = .ok (.iload 6, 2) := by decide +kernel
theorem dX0_tellMeansOfCut_61 : decode cX0_tellMeansOfCut 61 = .ok (.aload_n 0, 1) := by decide +kernel
theorem dX0_tellMeansOfCut_62 : decode cX0_tellMeansOfCut 62 = .ok (.getfield 21, 3) := by decide +kernel
theorem dX0_tellMeansOfCut_65 : decode cX0_tellMeansOfCut 65 = .ok (.arraylength, 1) := by decide +kernel
theorem dX0_tellMeansOfCut_66 : decode cX0_tellMeansOfCut 66 = .ok (.if_icmp .ge 38, 3) := by decide +kernel
theorem dX0_tellMeansOfCut_69 : decode cX0_tellMeansOfCut 69 = .ok (.lload 7, 2) := by decide +kernel
theorem dX0_tellMeansOfCut_71 : decode cX0_tellMeansOfCut 71 = .ok (.lconst 0, 1) := by decide +kernel
theorem dX0_tellMeansOfCut_72 : decode cX0_tellMeansOfCut 72 = .ok (.lcmp, 1) := by decide +kernel
theorem dX0_tellMeansOfCut_73 : decode cX0_tellMeansOfCut 73 = .ok (.ifCond .le 31, 3) := by decide +kernel
theorem dX0_tellMeansOfCut_76 : decode cX0_tellMeansOfCut 76 = .ok (.aload_n 0, 1) := by decide +kernel
theorem dX0_tellMeansOfCut_77 : decode cX0_tellMeansOfCut 77 = .ok (.getfield 21, 3) := by decide +kernel
theorem dX0_tellMeansOfCut_80 : decode cX0_tellMeansOfCut 80 = .ok (.iload 6, 2) := by decide +kernel
theorem dX0_tellMeansOfCut_82 : decode cX0_tellMeansOfCut 82 = .ok (.ldc2_w 153, 3) := by decide +kernel
theorem dX0_tellMeansOfCut_85 : decode cX0_tellMeansOfCut 85 = .ok (.aload_n 0, 1) := by decide +kernel
theorem dX0_tellMeansOfCut_86 : decode cX0_tellMeansOfCut 86 = .ok (.getfield 18, 3) := by decide +kernel
theorem dX0_tellMeansOfCut_89 : decode cX0_tellMeansOfCut 89 = .ok (.aload_n 0, 1) := by decide +kernel
theorem dX0_tellMeansOfCut_90 : decode cX0_tellMeansOfCut 90 = .ok (.getfield 63, 3) := by decide +kernel
theorem dX0_tellMeansOfCut_93 : decode cX0_tellMeansOfCut 93 = .ok (.iload 4, 2) := by decide +kernel
theorem dX0_tellMeansOfCut_95 : decode cX0_tellMeansOfCut 95 = .ok (.invokevirtual 155, 3) := by decide +kernel
theorem dX0_tellMeansOfCut_98 : decode cX0_tellMeansOfCut 98 = .ok (.lmul, 1) := by decide +kernel
theorem dX0_tellMeansOfCut_99 : decode cX0_tellMeansOfCut 99 = .ok (.lload 7, 2) := by decide +kernel
theorem dX0_tellMeansOfCut_101 : decode cX0_tellMeansOfCut 101 = .ok (.ldiv, 1) := by decide +kernel
theorem dX0_tellMeansOfCut_102 : decode cX0_tellMeansOfCut 102 = .ok (.l2i, 1) := by decide +kernel
theorem dX0_tellMeansOfCut_103 : decode cX0_tellMeansOfCut 103 = .ok (.iastore, 1) := by decide +kernel
theorem dX0_tellMeansOfCut_104 : decode cX0_tellMeansOfCut 104 = .ok (.iload_n 3, 1) := by decide +kernel
theorem dX0_tellMeansOfCut_105 : decode cX0_tellMeansOfCut 105 = .ok (.ifCond .eq 19, 3) := by decide +kernel
theorem dX0_tellMeansOfCut_108 : decode cX0_tellMeansOfCut 108 = .ok (.aload_n 0, 1) := by decide +kernel
theorem dX0_tellMeansOfCut_109 : decode cX0_tellMeansOfCut 109 = .ok (.getfield 18, 3) := by decide +kernel
theorem dX0_tellMeansOfCut_112 : decode cX0_tellMeansOfCut 112 = .ok (.aload_n 0, 1) := by decide +kernel
theorem dX0_tellMeansOfCut_113 : decode cX0_tellMeansOfCut 113 = .ok (.getfield 63, 3) := by decide +kernel
theorem dX0_tellMeansOfCut_116 : decode cX0_tellMeansOfCut 116 = .ok (.iload 4, 2) := by decide +kernel
theorem dX0_tellMeansOfCut_118 : decode cX0_tellMeansOfCut 118 = .ok (.iconst 1, 1) := by decide +kernel
theorem dX0_tellMeansOfCut_119 : decode cX0_tellMeansOfCut 119 = .ok (.iload 5, 2) := by decide +kernel
theorem dX0_tellMeansOfCut_121 : decode cX0_tellMeansOfCut 121 = .ok (.invokevirtual 141, 3) := by decide +kernel
theorem dX0_tellMeansOfCut_124 : decode cX0_tellMeansOfCut 124 = .ok (.iinc 5 1, 3) := by decide +kernel
theorem dX0_tellMeansOfCut_127 : decode cX0_tellMeansOfCut 127 = .ok (.goto (-103), 3) := by decide +kernel
theorem dX0_tellMeansOfCut_130 : decode cX0_tellMeansOfCut 130 = .ok (.return_, 1) := by decide +kernel
theorem dX0_tellMost_0 : decode cX0_tellMost 0 = .ok (.aload_n 0, 1) := by decide +kernel
theorem dX0_tellMost_1 : decode cX0_tellMost 1 = .ok (.getfield 25, 3) := by decide +kernel
theorem dX0_tellMost_4 : decode cX0_tellMost 4 = .ok (.iconst 0, 1) := by decide +kernel
theorem dX0_tellMost_5 : decode cX0_tellMost 5 = .ok (.invokestatic 92, 3) := by decide +kernel
theorem dX0_tellMost_8 : decode cX0_tellMost 8 = .ok (.bipush 7, 2) := by decide +kernel
theorem dX0_tellMost_10 : decode cX0_tellMost 10 = .ok (.istore_n 1, 1) := by decide +kernel
theorem dX0_tellMost_11 : decode cX0_tellMost 11 = .ok (.iload_n 1, 1) := by decide +kernel
theorem dX0_tellMost_12 : decode cX0_tellMost 12 = .ok (.ifCond .lt 68, 3) := by decide +kernel
theorem dX0_tellMost_15 : decode cX0_tellMost 15 = .ok (.iconst 0, 1) := by decide +kernel
theorem dX0_tellMost_16 : decode cX0_tellMost 16 = .ok (.istore_n 2, 1) := by decide +kernel
theorem dX0_tellMost_17 : decode cX0_tellMost 17 = .ok (.iconst 0, 1) := by decide +kernel
theorem dX0_tellMost_18 : decode cX0_tellMost 18 = .ok (.istore_n 3, 1) := by decide +kernel
theorem dX0_tellMost_19 : decode cX0_tellMost 19 = .ok (.iload_n 3, 1) := by decide +kernel
theorem dX0_tellMost_20 : decode cX0_tellMost 20 = .ok (.iload_n 1, 1) := by decide +kernel
theorem dX0_tellMost_21 : decode cX0_tellMost 21 = .ok (.if_icmp .gt 37, 3) := by decide +kernel
theorem dX0_tellMost_24 : decode cX0_tellMost 24 = .ok (.iconst 0, 1) := by decide +kernel
theorem dX0_tellMost_25 : decode cX0_tellMost 25 = .ok (.istore 4, 2) := by decide +kernel
theorem dX0_tellMost_27 : decode cX0_tellMost 27 = .ok (.iload 4, 2) := by decide +kernel
theorem dX0_tellMost_29 : decode cX0_tellMost 29 = .ok (.iconst 3, 1) := by decide +kernel
theorem dX0_tellMost_30 : decode cX0_tellMost 30 = .ok (.if_icmp .ge 22, 3) := by decide +kernel
theorem dX0_tellMost_33 : decode cX0_tellMost 33 = .ok (.iload_n 2, 1) := by decide +kernel
theorem dX0_tellMost_34 : decode cX0_tellMost 34 = .ok (.aload_n 0, 1) := by decide +kernel
theorem dX0_tellMost_35 : decode cX0_tellMost 35 = .ok (.iload 4, 2) := by decide +kernel
theorem dX0_tellMost_37 : decode cX0_tellMost 37 = .ok (.iload_n 3, 1) := by decide +kernel
theorem dX0_tellMost_38 : decode cX0_tellMost 38 = .ok (.iload_n 1, 1) := by decide +kernel
theorem dX0_tellMost_39 : decode cX0_tellMost 39 = .ok (.invokevirtual 159, 3) := by decide +kernel
theorem dX0_tellMost_42 : decode cX0_tellMost 42 = .ok (.invokestatic 86, 3) := by decide +kernel
theorem dX0_tellMost_45 : decode cX0_tellMost 45 = .ok (.istore_n 2, 1) := by decide +kernel
theorem dX0_tellMost_46 : decode cX0_tellMost 46 = .ok (.iinc 4 1, 3) := by decide +kernel
theorem dX0_tellMost_49 : decode cX0_tellMost 49 = .ok (.goto (-22), 3) := by decide +kernel
theorem dX0_tellMost_52 : decode cX0_tellMost 52 = .ok (.iinc 3 1, 3) := by decide +kernel
theorem dX0_tellMost_55 : decode cX0_tellMost 55 = .ok (.goto (-36), 3) := by decide +kernel
theorem dX0_tellMost_58 : decode cX0_tellMost 58 = .ok (.aload_n 0, 1) := by decide +kernel
theorem dX0_tellMost_59 : decode cX0_tellMost 59 = .ok (.getfield 25, 3) := by decide +kernel
theorem dX0_tellMost_62 : decode cX0_tellMost 62 = .ok (.iload_n 1, 1) := by decide +kernel
theorem dX0_tellMost_63 : decode cX0_tellMost 63 = .ok (.aload_n 0, 1) := by decide +kernel
theorem dX0_tellMost_64 : decode cX0_tellMost 64 = .ok (.getfield 25, 3) := by decide +kernel
theorem dX0_tellMost_67 : decode cX0_tellMost 67 = .ok (.iload_n 1, 1) := by decide +kernel
theorem dX0_tellMost_68 : decode cX0_tellMost 68 = .ok (.iconst 1, 1) := by decide +kernel
theorem dX0_tellMost_69 : decode cX0_tellMost 69 = .ok (.iadd, 1) := by decide +kernel
theorem dX0_tellMost_70 : decode cX0_tellMost 70 = .ok (.iaload, 1) := by decide +kernel
theorem dX0_tellMost_71 : decode cX0_tellMost 71 = .ok (.iload_n 2, 1) := by decide +kernel
theorem dX0_tellMost_72 : decode cX0_tellMost 72 = .ok (.iadd, 1) := by decide +kernel
theorem dX0_tellMost_73 : decode cX0_tellMost 73 = .ok (.iastore, 1) := by decide +kernel
theorem dX0_tellMost_74 : decode cX0_tellMost 74 = .ok (.iinc 1 (-1), 3) := by decide +kernel
theorem dX0_tellMost_77 : decode cX0_tellMost 77 = .ok (.goto (-66), 3) := by decide +kernel
theorem dX0_tellMost_80 : decode cX0_tellMost 80 = .ok (.return_, 1) := by decide +kernel
theorem dX0_search_0 : decode cX0_search 0 = .ok (.iload_n 1, 1) := by decide +kernel
theorem dX0_search_1 : decode cX0_search 1 = .ok (.ifCond .lt 20, 3) := by decide +kernel
theorem dX0_search_4 : decode cX0_search 4 = .ok (.iload_n 1, 1) := by decide +kernel
theorem dX0_search_5 : decode cX0_search 5 = .ok (.aload_n 0, 1) := by decide +kernel
theorem dX0_search_6 : decode cX0_search 6 = .ok (.getfield 63, 3) := by decide +kernel
theorem dX0_search_9 : decode cX0_search 9 = .ok (.getfield 81, 3) := by decide +kernel
theorem dX0_search_12 : decode cX0_search 12 = .ok (.if_icmp .ge 9, 3) := by decide +kernel
theorem dX0_search_15 : decode cX0_search 15 = .ok (.iload_n 1, 1) := by decide +kernel
theorem dX0_search_16 : decode cX0_search 16 = .ok (.bipush 8, 2) := by decide +kernel
theorem dX0_search_18 : decode cX0_search 18 = .ok (.if_icmp .lt 9, 3) := by decide +kernel
theorem dX0_search_21 : decode cX0_search 21 = .ok (.aload_n 0, 1) := by decide +kernel
theorem dX0_search_22 : decode cX0_search 22 = .ok (.iload_n 3, 1) := by decide +kernel
theorem dX0_search_23 : decode cX0_search 23 = .ok (.invokevirtual 162, 3) := by decide +kernel
theorem dX0_search_26 : decode cX0_search 26 = .ok (.return_, 1) := by decide +kernel
theorem dX0_search_27 : decode cX0_search 27 = .ok (.iload_n 3, 1) := by decide +kernel
theorem dX0_search_28 : decode cX0_search 28 = .ok (.aload_n 0, 1) := by decide +kernel
theorem dX0_search_29 : decode cX0_search 29 = .ok (.getfield 25, 3) := by decide +kernel
theorem dX0_search_32 : decode cX0_search 32 = .ok (.iload_n 1, 1) := by decide +kernel
theorem dX0_search_33 : decode cX0_search 33 = .ok (.iaload, 1) := by decide +kernel
theorem dX0_search_34 : decode cX0_search 34 = .ok (.iadd, 1) := by decide +kernel
theorem dX0_search_35 : decode cX0_search 35 = .ok (.aload_n 0, 1) := by decide +kernel
theorem dX0_search_36 : decode cX0_search 36 = .ok (.getfield 37, 3) := by decide +kernel
theorem dX0_search_39 : decode cX0_search 39 = .ok (.if_icmp .gt 4, 3) := by decide +kernel
theorem dX0_search_42 : decode cX0_search 42 = .ok (.return_, 1) := by decide +kernel
theorem dX0_search_43 : decode cX0_search 43 = .ok (.iconst 0, 1) := by decide +kernel
theorem dX0_search_44 : decode cX0_search 44 = .ok (.istore 4, 2) := by decide +kernel
theorem dX0_search_46 : decode cX0_search 46 = .ok (.iload 4, 2) := by decide +kernel
theorem dX0_search_48 : decode cX0_search 48 = .ok (.iconst 3, 1) := by decide +kernel
theorem dX0_search_49 : decode cX0_search 49 = .ok (.if_icmp .ge 99, 3) := by decide +kernel
theorem dX0_search_52 : decode cX0_search 52 = .ok (.aload_n 0, 1) := by decide +kernel
theorem dX0_search_53 : decode cX0_search 53 = .ok (.getfield 63, 3) := by decide +kernel
theorem dX0_search_56 : decode cX0_search 56 = .ok (.iload_n 2, 1) := by decide +kernel
theorem dX0_search_57 : decode cX0_search 57 = .ok (.iload 4, 2) := by decide +kernel
theorem dX0_search_59 : decode cX0_search 59 = .ok (.invokevirtual 165, 3) := by decide +kernel
theorem dX0_search_62 : decode cX0_search 62 = .ok (.ifCond .eq 80, 3) := by decide +kernel
theorem dX0_search_65 : decode cX0_search 65 = .ok (.aload_n 0, 1) := by decide +kernel
theorem dX0_search_66 : decode cX0_search 66 = .ok (.getfield 28, 3) := by decide +kernel
theorem dX0_search_69 : decode cX0_search 69 = .ok (.iload 4, 2) := by decide +kernel
theorem dX0_search_71 : decode cX0_search 71 = .ok (.iaload, 1) := by decide +kernel
theorem dX0_search_72 : decode cX0_search 72 = .ok (.istore 5, 2) := by decide +kernel
theorem dX0_search_74 : decode cX0_search 74 = .ok (.aload_n 0, 1) := by decide +kernel
theorem dX0_search_75 : decode cX0_search 75 = .ok (.getfield 28, 3) := by decide +kernel
theorem dX0_search_78 : decode cX0_search 78 = .ok (.iload 4, 2) := by decide +kernel
theorem dX0_search_80 : decode cX0_search 80 = .ok (.iload 5, 2) := by decide +kernel
theorem dX0_search_82 : decode cX0_search 82 = .ok (.iconst (-1), 1) := by decide +kernel
theorem dX0_search_83 : decode cX0_search 83 = .ok (.if_icmp .ne 7, 3) := by decide +kernel
theorem dX0_search_86 : decode cX0_search 86 = .ok (.iload_n 1, 1) := by decide +kernel
theorem dX0_search_87 : decode cX0_search 87 = .ok (.goto 5, 3) := by decide +kernel
theorem dX0_search_90 : decode cX0_search 90 = .ok (.iload 5, 2) := by decide +kernel
theorem dX0_search_92 : decode cX0_search 92 = .ok (.iastore, 1) := by decide +kernel
theorem dX0_search_93 : decode cX0_search 93 = .ok (.aload_n 0, 1) := by decide +kernel
theorem dX0_search_94 : decode cX0_search 94 = .ok (.iload_n 1, 1) := by decide +kernel
theorem dX0_search_95 : decode cX0_search 95 = .ok (.iload 4, 2) := by decide +kernel
theorem dX0_search_97 : decode cX0_search 97 = .ok (.invokevirtual 168, 3) := by decide +kernel
theorem dX0_search_100 : decode cX0_search 100 = .ok (.aload_n 0, 1) := by decide +kernel
theorem dX0_search_101 : decode cX0_search 101 = .ok (.iload_n 1, 1) := by decide +kernel
theorem dX0_search_102 : decode cX0_search 102 = .ok (.iconst 1, 1) := by decide +kernel
theorem dX0_search_103 : decode cX0_search 103 = .ok (.iadd, 1) := by decide +kernel
theorem dX0_search_104 : decode cX0_search 104 = .ok (.aload_n 0, 1) := by decide +kernel
theorem dX0_search_105 : decode cX0_search 105 = .ok (.getfield 63, 3) := by decide +kernel
theorem dX0_search_108 : decode cX0_search 108 = .ok (.iload_n 2, 1) := by decide +kernel
theorem dX0_search_109 : decode cX0_search 109 = .ok (.iload 4, 2) := by decide +kernel
theorem dX0_search_111 : decode cX0_search 111 = .ok (.invokevirtual 172, 3) := by decide +kernel
theorem dX0_search_114 : decode cX0_search 114 = .ok (.iload_n 3, 1) := by decide +kernel
theorem dX0_search_115 : decode cX0_search 115 = .ok (.aload_n 0, 1) := by decide +kernel
theorem dX0_search_116 : decode cX0_search 116 = .ok (.iload 4, 2) := by decide +kernel
theorem dX0_search_118 : decode cX0_search 118 = .ok (.aload_n 0, 1) := by decide +kernel
theorem dX0_search_119 : decode cX0_search 119 = .ok (.getfield 28, 3) := by decide +kernel
theorem dX0_search_122 : decode cX0_search 122 = .ok (.iload 4, 2) := by decide +kernel
theorem dX0_search_124 : decode cX0_search 124 = .ok (.iaload, 1) := by decide +kernel
theorem dX0_search_125 : decode cX0_search 125 = .ok (.iload_n 1, 1) := by decide +kernel
theorem dX0_search_126 : decode cX0_search 126 = .ok (.invokevirtual 159, 3) := by decide +kernel
theorem dX0_search_129 : decode cX0_search 129 = .ok (.iadd, 1) := by decide +kernel
theorem dX0_search_130 : decode cX0_search 130 = .ok (.invokevirtual 108, 3) := by decide +kernel
theorem dX0_search_133 : decode cX0_search 133 = .ok (.aload_n 0, 1) := by decide +kernel
theorem dX0_search_134 : decode cX0_search 134 = .ok (.getfield 28, 3) := by decide +kernel
theorem dX0_search_137 : decode cX0_search 137 = .ok (.iload 4, 2) := by decide +kernel
theorem dX0_search_139 : decode cX0_search 139 = .ok (.iload 5, 2) := by decide +kernel
theorem dX0_search_141 : decode cX0_search 141 = .ok (.iastore, 1) := by decide +kernel
theorem dX0_search_142 : decode cX0_search 142 = .ok (.iinc 4 1, 3) := by decide +kernel
theorem dX0_search_145 : decode cX0_search 145 = .ok (.goto (-99), 3) := by decide +kernel
theorem dX0_search_148 : decode cX0_search 148 = .ok (.aload_n 0, 1) := by decide +kernel
theorem dX0_search_149 : decode cX0_search 149 = .ok (.iload_n 1, 1) := by decide +kernel
theorem dX0_search_150 : decode cX0_search 150 = .ok (.bipush 6, 2) := by decide +kernel
theorem dX0_search_152 : decode cX0_search 152 = .ok (.invokevirtual 168, 3) := by decide +kernel
theorem dX0_search_155 : decode cX0_search 155 = .ok (.aload_n 0, 1) := by decide +kernel
theorem dX0_search_156 : decode cX0_search 156 = .ok (.iload_n 1, 1) := by decide +kernel
theorem dX0_search_157 : decode cX0_search 157 = .ok (.iconst 1, 1) := by decide +kernel
theorem dX0_search_158 : decode cX0_search 158 = .ok (.iadd, 1) := by decide +kernel
theorem dX0_search_159 : decode cX0_search 159 = .ok (.iload_n 2, 1) := by decide +kernel
theorem dX0_search_160 : decode cX0_search 160 = .ok (.iload_n 3, 1) := by decide +kernel
theorem dX0_search_161 : decode cX0_search 161 = .ok (.invokevirtual 108, 3) := by decide +kernel
theorem dX0_search_164 : decode cX0_search 164 = .ok (.return_, 1) := by decide +kernel
theorem dX0_tellRow_0 : decode cX0_tellRow 0 = .ok (.iload_n 1, 1) := by decide +kernel
theorem dX0_tellRow_1 : decode cX0_tellRow 1 = .ok (.aload_n 0, 1) := by decide +kernel
theorem dX0_tellRow_2 : decode cX0_tellRow 2 = .ok (.getfield 44, 3) := by decide +kernel
theorem dX0_tellRow_5 : decode cX0_tellRow 5 = .ok (.isub, 1) := by decide +kernel
theorem dX0_tellRow_6 : decode cX0_tellRow 6 = .ok (.istore_n 3, 1) := by decide +kernel
theorem dX0_tellRow_7 : decode cX0_tellRow 7 = .ok (.iload_n 3, 1) := by decide +kernel
theorem dX0_tellRow_8 : decode cX0_tellRow 8 = .ok (.ifCond .lt 16, 3) := by decide +kernel
theorem dX0_tellRow_11 : decode cX0_tellRow 11 = .ok (.iload_n 3, 1) := by decide +kernel
theorem dX0_tellRow_12 : decode cX0_tellRow 12 = .ok (.bipush 8, 2) := by decide +kernel
theorem dX0_tellRow_14 : decode cX0_tellRow 14 = .ok (.if_icmp .ge 10, 3) := by decide +kernel
theorem dX0_tellRow_17 : decode cX0_tellRow 17 = .ok (.aload_n 0, 1) := by decide +kernel
theorem dX0_tellRow_18 : decode cX0_tellRow 18 = .ok (.getfield 31, 3) := by decide +kernel
theorem dX0_tellRow_21 : decode cX0_tellRow 21 = .ok (.iload_n 3, 1) := by decide +kernel
theorem dX0_tellRow_22 : decode cX0_tellRow 22 = .ok (.iload_n 2, 1) := by decide +kernel
theorem dX0_tellRow_23 : decode cX0_tellRow 23 = .ok (.iastore, 1) := by decide +kernel
theorem dX0_tellRow_24 : decode cX0_tellRow 24 = .ok (.return_, 1) := by decide +kernel
theorem dX0_takeIfBetter_0 : decode cX0_takeIfBetter 0 = .ok (.iload_n 1, 1) := by decide +kernel
theorem dX0_takeIfBetter_1 : decode cX0_takeIfBetter 1 = .ok (.aload_n 0, 1) := by decide +kernel
theorem dX0_takeIfBetter_2 : decode cX0_takeIfBetter 2 = .ok (.getfield 37, 3) := by decide +kernel
theorem dX0_takeIfBetter_5 : decode cX0_takeIfBetter 5 = .ok (.if_icmp .le 23, 3) := by decide +kernel
theorem dX0_takeIfBetter_8 : decode cX0_takeIfBetter 8 = .ok (.aload_n 0, 1) := by decide +kernel
theorem dX0_takeIfBetter_9 : decode cX0_takeIfBetter 9 = .ok (.iload_n 1, 1) := by decide +kernel
theorem dX0_takeIfBetter_10 : decode cX0_takeIfBetter 10 = .ok (.putfield 37, 3) := by decide +kernel
theorem dX0_takeIfBetter_13 : decode cX0_takeIfBetter 13 = .ok (.aload_n 0, 1) := by decide +kernel
theorem dX0_takeIfBetter_14 : decode cX0_takeIfBetter 14 = .ok (.getfield 31, 3) := by decide +kernel
theorem dX0_takeIfBetter_17 : decode cX0_takeIfBetter 17 = .ok (.iconst 0, 1) := by decide +kernel
theorem dX0_takeIfBetter_18 : decode cX0_takeIfBetter 18 = .ok (.aload_n 0, 1) := by decide +kernel
theorem dX0_takeIfBetter_19 : decode cX0_takeIfBetter 19 = .ok (.getfield 34, 3) := by decide +kernel
theorem dX0_takeIfBetter_22 : decode cX0_takeIfBetter 22 = .ok (.iconst 0, 1) := by decide +kernel
theorem dX0_takeIfBetter_23 : decode cX0_takeIfBetter 23 = .ok (.bipush 8, 2) := by decide +kernel
theorem dX0_takeIfBetter_25 : decode cX0_takeIfBetter 25 = .ok (.invokestatic 175, 3) := by decide +kernel
theorem dX0_takeIfBetter_28 : decode cX0_takeIfBetter 28 = .ok (.return_, 1) := by decide +kernel
theorem dX1_init_0 : decode cX1_init 0 = .ok (.aload_n 0, 1) := by decide +kernel
theorem dX1_init_1 : decode cX1_init 1 = .ok (.invokespecial 3, 3) := by decide +kernel
theorem dX1_init_4 : decode cX1_init 4 = .ok (.aload_n 0, 1) := by decide +kernel
theorem dX1_init_5 : decode cX1_init 5 = .ok (.iconst 4, 1) := by decide +kernel
theorem dX1_init_6 : decode cX1_init 6 = .ok (.bipush 14, 2) := by decide +kernel
theorem dX1_init_8 : decode cX1_init 8 = .ok (.multianewarray 9 2, 4) := by decide +kernel
theorem dX1_init_12 : decode cX1_init 12 = .ok (.putfield 11, 3) := by decide +kernel
theorem dX1_init_15 : decode cX1_init 15 = .ok (.aload_n 0, 1) := by decide +kernel
theorem dX1_init_16 : decode cX1_init 16 = .ok (.iconst 3, 1) := by decide +kernel
theorem dX1_init_17 : decode cX1_init 17 = .ok (.newarray .int, 2) := by decide +kernel
theorem dX1_init_19 : decode cX1_init 19 = .ok (.putfield 16, 3) := by decide +kernel
theorem dX1_init_22 : decode cX1_init 22 = .ok (.aload_n 0, 1) := by decide +kernel
theorem dX1_init_23 : decode cX1_init 23 = .ok (.iconst 3, 1) := by decide +kernel
theorem dX1_init_24 : decode cX1_init 24 = .ok (.newarray .int, 2) := by decide +kernel
theorem dX1_init_26 : decode cX1_init 26 = .ok (.putfield 20, 3) := by decide +kernel
theorem dX1_init_29 : decode cX1_init 29 = .ok (.aload_n 0, 1) := by decide +kernel
theorem dX1_init_30 : decode cX1_init 30 = .ok (.bipush 8, 2) := by decide +kernel
theorem dX1_init_32 : decode cX1_init 32 = .ok (.newarray .int, 2) := by decide +kernel
theorem dX1_init_34 : decode cX1_init 34 = .ok (.putfield 23, 3) := by decide +kernel
theorem dX1_init_37 : decode cX1_init 37 = .ok (.aload_n 0, 1) := by decide +kernel
theorem dX1_init_38 : decode cX1_init 38 = .ok (.bipush 8, 2) := by decide +kernel
theorem dX1_init_40 : decode cX1_init 40 = .ok (.newarray .int, 2) := by decide +kernel
theorem dX1_init_42 : decode cX1_init 42 = .ok (.putfield 26, 3) := by decide +kernel
theorem dX1_init_45 : decode cX1_init 45 = .ok (.aload_n 0, 1) := by decide +kernel
theorem dX1_init_46 : decode cX1_init 46 = .ok (.iconst 0, 1) := by decide +kernel
theorem dX1_init_47 : decode cX1_init 47 = .ok (.putfield 29, 3) := by decide +kernel
theorem dX1_init_50 : decode cX1_init 50 = .ok (.aload_n 0, 1) := by decide +kernel
theorem dX1_init_51 : decode cX1_init 51 = .ok (.iconst 0, 1) := by decide +kernel
theorem dX1_init_52 : decode cX1_init 52 = .ok (.putfield 33, 3) := by decide +kernel
theorem dX1_init_55 : decode cX1_init 55 = .ok (.aload_n 0, 1) := by decide +kernel
theorem dX1_init_56 : decode cX1_init 56 = .ok (.bipush 6, 2) := by decide +kernel
theorem dX1_init_58 : decode cX1_init 58 = .ok (.putfield 36, 3) := by decide +kernel
theorem dX1_init_61 : decode cX1_init 61 = .ok (.aload_n 0, 1) := by decide +kernel
theorem dX1_init_62 : decode cX1_init 62 = .ok (.iconst 3, 1) := by decide +kernel
theorem dX1_init_63 : decode cX1_init 63 = .ok (.putfield 39, 3) := by decide +kernel
theorem dX1_init_66 : decode cX1_init 66 = .ok (.return_, 1) := by decide +kernel
theorem dX1_becomeEmpty_0 : decode cX1_becomeEmpty 0 = .ok (.aload_n 0, 1) := by decide +kernel
theorem dX1_becomeEmpty_1 : decode cX1_becomeEmpty 1 = .ok (.iconst 0, 1) := by decide +kernel
theorem dX1_becomeEmpty_2 : decode cX1_becomeEmpty 2 = .ok (.putfield 29, 3) := by decide +kernel
theorem dX1_becomeEmpty_5 : decode cX1_becomeEmpty 5 = .ok (.aload_n 0, 1) := by decide +kernel
theorem dX1_becomeEmpty_6 : decode cX1_becomeEmpty 6 = .ok (.iconst 0, 1) := by decide +kernel
theorem dX1_becomeEmpty_7 : decode cX1_becomeEmpty 7 = .ok (.putfield 33, 3) := by decide +kernel
theorem dX1_becomeEmpty_10 : decode cX1_becomeEmpty 10 = .ok (.aload_n 0, 1) := by decide +kernel
theorem dX1_becomeEmpty_11 : decode cX1_becomeEmpty 11 = .ok (.bipush 6, 2) := by decide +kernel
theorem dX1_becomeEmpty_13 : decode cX1_becomeEmpty 13 = .ok (.putfield 36, 3) := by decide +kernel
theorem dX1_becomeEmpty_16 : decode cX1_becomeEmpty 16 = .ok (.aload_n 0, 1) := by decide +kernel
theorem dX1_becomeEmpty_17 : decode cX1_becomeEmpty 17 = .ok (.iconst 3, 1) := by decide +kernel
theorem dX1_becomeEmpty_18 : decode cX1_becomeEmpty 18 = .ok (.putfield 39, 3) := by decide +kernel
theorem dX1_becomeEmpty_21 : decode cX1_becomeEmpty 21 = .ok (.aload_n 0, 1) := by decide +kernel
theorem dX1_becomeEmpty_22 : decode cX1_becomeEmpty 22 = .ok (.getfield 20, 3) := by decide +kernel
theorem dX1_becomeEmpty_25 : decode cX1_becomeEmpty 25 = .ok (.iconst 0, 1) := by decide +kernel
theorem dX1_becomeEmpty_26 : decode cX1_becomeEmpty 26 = .ok (.invokestatic 42, 3) := by decide +kernel
theorem dX1_becomeEmpty_29 : decode cX1_becomeEmpty 29 = .ok (.aload_n 0, 1) := by decide +kernel
theorem dX1_becomeEmpty_30 : decode cX1_becomeEmpty 30 = .ok (.getfield 23, 3) := by decide +kernel
theorem dX1_becomeEmpty_33 : decode cX1_becomeEmpty 33 = .ok (.iconst 0, 1) := by decide +kernel
theorem dX1_becomeEmpty_34 : decode cX1_becomeEmpty 34 = .ok (.invokestatic 42, 3) := by decide +kernel
theorem dX1_becomeEmpty_37 : decode cX1_becomeEmpty 37 = .ok (.aload_n 0, 1) := by decide +kernel
theorem dX1_becomeEmpty_38 : decode cX1_becomeEmpty 38 = .ok (.getfield 26, 3) := by decide +kernel
theorem dX1_becomeEmpty_41 : decode cX1_becomeEmpty 41 = .ok (.iconst 0, 1) := by decide +kernel
theorem dX1_becomeEmpty_42 : decode cX1_becomeEmpty 42 = .ok (.invokestatic 42, 3) := by decide +kernel
theorem dX1_becomeEmpty_45 : decode cX1_becomeEmpty 45 = .ok (.return_, 1) := by decide +kernel
theorem dX1_becomeLike_0 : decode cX1_becomeLike 0 = .ok (.iconst 0, 1) := by decide +kernel
theorem dX1_becomeLike_1 : decode cX1_becomeLike 1 = .ok (.istore_n 2, 1) := by decide +kernel
theorem dX1_becomeLike_2 : decode cX1_becomeLike 2 = .ok (.iload_n 2, 1) := by decide +kernel
theorem dX1_becomeLike_3 : decode cX1_becomeLike 3 = .ok (.iconst 4, 1) := by decide +kernel
theorem dX1_becomeLike_4 : decode cX1_becomeLike 4 = .ok (.if_icmp .ge 28, 3) := by decide +kernel
theorem dX1_becomeLike_7 : decode cX1_becomeLike 7 = .ok (.aload_n 1, 1) := by decide +kernel
theorem dX1_becomeLike_8 : decode cX1_becomeLike 8 = .ok (.getfield 11, 3) := by decide +kernel
theorem dX1_becomeLike_11 : decode cX1_becomeLike 11 = .ok (.iload_n 2, 1) := by decide +kernel
theorem dX1_becomeLike_12 : decode cX1_becomeLike 12 = .ok (.aaload, 1) := by decide +kernel
theorem dX1_becomeLike_13 : decode cX1_becomeLike 13 = .ok (.iconst 0, 1) := by decide +kernel
theorem dX1_becomeLike_14 : decode cX1_becomeLike 14 = .ok (.aload_n 0, 1) := by decide +kernel
theorem dX1_becomeLike_15 : decode cX1_becomeLike 15 = .ok (.getfield 11, 3) := by decide +kernel
theorem dX1_becomeLike_18 : decode cX1_becomeLike 18 = .ok (.iload_n 2, 1) := by decide +kernel
theorem dX1_becomeLike_19 : decode cX1_becomeLike 19 = .ok (.aaload, 1) := by decide +kernel
theorem dX1_becomeLike_20 : decode cX1_becomeLike 20 = .ok (.iconst 0, 1) := by decide +kernel
theorem dX1_becomeLike_21 : decode cX1_becomeLike 21 = .ok (.bipush 14, 2) := by decide +kernel
theorem dX1_becomeLike_23 : decode cX1_becomeLike 23 = .ok (.invokestatic 48, 3) := by decide +kernel
theorem dX1_becomeLike_26 : decode cX1_becomeLike 26 = .ok (.iinc 2 1, 3) := by decide +kernel
theorem dX1_becomeLike_29 : decode cX1_becomeLike 29 = .ok (.goto (-27), 3) := by decide +kernel
theorem dX1_becomeLike_32 : decode cX1_becomeLike 32 = .ok (.aload_n 1, 1) := by decide +kernel
theorem dX1_becomeLike_33 : decode cX1_becomeLike 33 = .ok (.getfield 16, 3) := by decide +kernel
theorem dX1_becomeLike_36 : decode cX1_becomeLike 36 = .ok (.iconst 0, 1) := by decide +kernel
theorem dX1_becomeLike_37 : decode cX1_becomeLike 37 = .ok (.aload_n 0, 1) := by decide +kernel
theorem dX1_becomeLike_38 : decode cX1_becomeLike 38 = .ok (.getfield 16, 3) := by decide +kernel
theorem dX1_becomeLike_41 : decode cX1_becomeLike 41 = .ok (.iconst 0, 1) := by decide +kernel
theorem dX1_becomeLike_42 : decode cX1_becomeLike 42 = .ok (.iconst 3, 1) := by decide +kernel
theorem dX1_becomeLike_43 : decode cX1_becomeLike 43 = .ok (.invokestatic 48, 3) := by decide +kernel
theorem dX1_becomeLike_46 : decode cX1_becomeLike 46 = .ok (.aload_n 1, 1) := by decide +kernel
theorem dX1_becomeLike_47 : decode cX1_becomeLike 47 = .ok (.getfield 20, 3) := by decide +kernel
theorem dX1_becomeLike_50 : decode cX1_becomeLike 50 = .ok (.iconst 0, 1) := by decide +kernel
theorem dX1_becomeLike_51 : decode cX1_becomeLike 51 = .ok (.aload_n 0, 1) := by decide +kernel
theorem dX1_becomeLike_52 : decode cX1_becomeLike 52 = .ok (.getfield 20, 3) := by decide +kernel
theorem dX1_becomeLike_55 : decode cX1_becomeLike 55 = .ok (.iconst 0, 1) := by decide +kernel
theorem dX1_becomeLike_56 : decode cX1_becomeLike 56 = .ok (.iconst 3, 1) := by decide +kernel
theorem dX1_becomeLike_57 : decode cX1_becomeLike 57 = .ok (.invokestatic 48, 3) := by decide +kernel
theorem dX1_becomeLike_60 : decode cX1_becomeLike 60 = .ok (.aload_n 1, 1) := by decide +kernel
theorem dX1_becomeLike_61 : decode cX1_becomeLike 61 = .ok (.getfield 23, 3) := by decide +kernel
theorem dX1_becomeLike_64 : decode cX1_becomeLike 64 = .ok (.iconst 0, 1) := by decide +kernel
theorem dX1_becomeLike_65 : decode cX1_becomeLike 65 = .ok (.aload_n 0, 1) := by decide +kernel
theorem dX1_becomeLike_66 : decode cX1_becomeLike 66 = .ok (.getfield 23, 3) := by decide +kernel
theorem dX1_becomeLike_69 : decode cX1_becomeLike 69 = .ok (.iconst 0, 1) := by decide +kernel
theorem dX1_becomeLike_70 : decode cX1_becomeLike 70 = .ok (.bipush 8, 2) := by decide +kernel
theorem dX1_becomeLike_72 : decode cX1_becomeLike 72 = .ok (.invokestatic 48, 3) := by decide +kernel
theorem dX1_becomeLike_75 : decode cX1_becomeLike 75 = .ok (.aload_n 1, 1) := by decide +kernel
theorem dX1_becomeLike_76 : decode cX1_becomeLike 76 = .ok (.getfield 26, 3) := by decide +kernel
theorem dX1_becomeLike_79 : decode cX1_becomeLike 79 = .ok (.iconst 0, 1) := by decide +kernel
theorem dX1_becomeLike_80 : decode cX1_becomeLike 80 = .ok (.aload_n 0, 1) := by decide +kernel
theorem dX1_becomeLike_81 : decode cX1_becomeLike 81 = .ok (.getfield 26, 3) := by decide +kernel
theorem dX1_becomeLike_84 : decode cX1_becomeLike 84 = .ok (.iconst 0, 1) := by decide +kernel
theorem dX1_becomeLike_85 : decode cX1_becomeLike 85 = .ok (.bipush 8, 2) := by decide +kernel
theorem dX1_becomeLike_87 : decode cX1_becomeLike 87 = .ok (.invokestatic 48, 3) := by decide +kernel
theorem dX1_becomeLike_90 : decode cX1_becomeLike 90 = .ok (.aload_n 0, 1) := by decide +kernel
theorem dX1_becomeLike_91 : decode cX1_becomeLike 91 = .ok (.aload_n 1, 1) := by decide +kernel
theorem dX1_becomeLike_92 : decode cX1_becomeLike 92 = .ok (.getfield 29, 3) := by decide +kernel
theorem dX1_becomeLike_95 : decode cX1_becomeLike 95 = .ok (.putfield 29, 3) := by decide +kernel
theorem dX1_becomeLike_98 : decode cX1_becomeLike 98 = .ok (.aload_n 0, 1) := by decide +kernel
theorem dX1_becomeLike_99 : decode cX1_becomeLike 99 = .ok (.aload_n 1, 1) := by decide +kernel
theorem dX1_becomeLike_100 : decode cX1_becomeLike 100 = .ok (.getfield 33, 3) := by decide +kernel
theorem dX1_becomeLike_103 : decode cX1_becomeLike 103 = .ok (.putfield 33, 3) := by decide +kernel
theorem dX1_becomeLike_106 : decode cX1_becomeLike 106 = .ok (.aload_n 0, 1) := by decide +kernel
theorem dX1_becomeLike_107 : decode cX1_becomeLike 107 = .ok (.aload_n 1, 1) := by decide +kernel
theorem dX1_becomeLike_108 : decode cX1_becomeLike 108 = .ok (.getfield 36, 3) := by decide +kernel
theorem dX1_becomeLike_111 : decode cX1_becomeLike 111 = .ok (.putfield 36, 3) := by decide +kernel
theorem dX1_becomeLike_114 : decode cX1_becomeLike 114 = .ok (.aload_n 0, 1) := by decide +kernel
theorem dX1_becomeLike_115 : decode cX1_becomeLike 115 = .ok (.aload_n 1, 1) := by decide +kernel
theorem dX1_becomeLike_116 : decode cX1_becomeLike 116 = .ok (.getfield 39, 3) := by decide +kernel
theorem dX1_becomeLike_119 : decode cX1_becomeLike 119 = .ok (.putfield 39, 3) := by decide +kernel
theorem dX1_becomeLike_122 : decode cX1_becomeLike 122 = .ok (.return_, 1) := by decide +kernel
theorem dX1_isSort_0 : decode cX1_isSort 0 = .ok (.iload_n 1, 1) := by decide +kernel
theorem dX1_isSort_1 : decode cX1_isSort 1 = .ok (.ifCond .lt 15, 3) := by decide +kernel
theorem dX1_isSort_4 : decode cX1_isSort 4 = .ok (.iload_n 1, 1) := by decide +kernel
theorem dX1_isSort_5 : decode cX1_isSort 5 = .ok (.aload_n 0, 1) := by decide +kernel
theorem dX1_isSort_6 : decode cX1_isSort 6 = .ok (.getfield 29, 3) := by decide +kernel
theorem dX1_isSort_9 : decode cX1_isSort 9 = .ok (.if_icmp .ge 7, 3) := by decide +kernel
theorem dX1_isSort_12 : decode cX1_isSort 12 = .ok (.iconst 1, 1) := by decide +kernel
theorem dX1_isSort_13 : decode cX1_isSort 13 = .ok (.goto 4, 3) := by decide +kernel
theorem dX1_isSort_16 : decode cX1_isSort 16 = .ok (.iconst 0, 1) := by decide +kernel
theorem dX1_isSort_17 : decode cX1_isSort 17 = .ok (.ireturn, 1) := by decide +kernel
theorem dX1_isWheel_0 : decode cX1_isWheel 0 = .ok (.iload_n 1, 1) := by decide +kernel
theorem dX1_isWheel_1 : decode cX1_isWheel 1 = .ok (.ifCond .lt 15, 3) := by decide +kernel
theorem dX1_isWheel_4 : decode cX1_isWheel 4 = .ok (.iload_n 1, 1) := by decide +kernel
theorem dX1_isWheel_5 : decode cX1_isWheel 5 = .ok (.aload_n 0, 1) := by decide +kernel
theorem dX1_isWheel_6 : decode cX1_isWheel 6 = .ok (.getfield 33, 3) := by decide +kernel
theorem dX1_isWheel_9 : decode cX1_isWheel 9 = .ok (.if_icmp .ge 7, 3) := by decide +kernel
theorem dX1_isWheel_12 : decode cX1_isWheel 12 = .ok (.iconst 1, 1) := by decide +kernel
theorem dX1_isWheel_13 : decode cX1_isWheel 13 = .ok (.goto 4, 3) := by decide +kernel
theorem dX1_isWheel_16 : decode cX1_isWheel 16 = .ok (.iconst 0, 1) := by decide +kernel
theorem dX1_isWheel_17 : decode cX1_isWheel 17 = .ok (.ireturn, 1) := by decide +kernel
theorem dX1_trait_0 : decode cX1_trait 0 = .ok (.iload_n 1, 1) := by decide +kernel
theorem dX1_trait_1 : decode cX1_trait 1 = .ok (.ifCond .lt 18, 3) := by decide +kernel
theorem dX1_trait_4 : decode cX1_trait 4 = .ok (.iload_n 1, 1) := by decide +kernel
theorem dX1_trait_5 : decode cX1_trait 5 = .ok (.iconst 4, 1) := by decide +kernel
theorem dX1_trait_6 : decode cX1_trait 6 = .ok (.if_icmp .ge 13, 3) := by decide +kernel
theorem dX1_trait_9 : decode cX1_trait 9 = .ok (.iload_n 2, 1) := by decide +kernel
theorem dX1_trait_10 : decode cX1_trait 10 = .ok (.ifCond .lt 9, 3) := by decide +kernel
theorem dX1_trait_13 : decode cX1_trait 13 = .ok (.iload_n 2, 1) := by decide +kernel
theorem dX1_trait_14 : decode cX1_trait 14 = .ok (.bipush 14, 2) := by decide +kernel
theorem dX1_trait_16 : decode cX1_trait 16 = .ok (.if_icmp .lt 5, 3) := by decide +kernel
theorem dX1_trait_19 : decode cX1_trait 19 = .ok (.iconst 0, 1) := by decide +kernel
theorem dX1_trait_20 : decode cX1_trait 20 = .ok (.ireturn, 1) := by decide +kernel
theorem dX1_trait_21 : decode cX1_trait 21 = .ok (.aload_n 0, 1) := by decide +kernel
theorem dX1_trait_22 : decode cX1_trait 22 = .ok (.getfield 11, 3) := by decide +kernel
theorem dX1_trait_25 : decode cX1_trait 25 = .ok (.iload_n 1, 1) := by decide +kernel
theorem dX1_trait_26 : decode cX1_trait 26 = .ok (.aaload, 1) := by decide +kernel
theorem dX1_trait_27 : decode cX1_trait 27 = .ok (.iload_n 2, 1) := by decide +kernel
theorem dX1_trait_28 : decode cX1_trait 28 = .ok (.iaload, 1) := by decide +kernel
theorem dX1_trait_29 : decode cX1_trait 29 = .ok (.ireturn, 1) := by decide +kernel
theorem dX1_sortOf_0 : decode cX1_sortOf 0 = .ok (.iload_n 1, 1) := by decide +kernel
theorem dX1_sortOf_1 : decode cX1_sortOf 1 = .ok (.ifCond .lt 17, 3) := by decide +kernel
theorem dX1_sortOf_4 : decode cX1_sortOf 4 = .ok (.iload_n 1, 1) := by decide +kernel
theorem dX1_sortOf_5 : decode cX1_sortOf 5 = .ok (.iconst 3, 1) := by decide +kernel
theorem dX1_sortOf_6 : decode cX1_sortOf 6 = .ok (.if_icmp .ge 12, 3) := by decide +kernel
theorem dX1_sortOf_9 : decode cX1_sortOf 9 = .ok (.aload_n 0, 1) := by decide +kernel
theorem dX1_sortOf_10 : decode cX1_sortOf 10 = .ok (.getfield 16, 3) := by decide +kernel
theorem dX1_sortOf_13 : decode cX1_sortOf 13 = .ok (.iload_n 1, 1) := by decide +kernel
theorem dX1_sortOf_14 : decode cX1_sortOf 14 = .ok (.iaload, 1) := by decide +kernel
theorem dX1_sortOf_15 : decode cX1_sortOf 15 = .ok (.goto 4, 3) := by decide +kernel
theorem dX1_sortOf_18 : decode cX1_sortOf 18 = .ok (.iconst 0, 1) := by decide +kernel
theorem dX1_sortOf_19 : decode cX1_sortOf 19 = .ok (.ireturn, 1) := by decide +kernel
theorem dX1_portionsAtFirst_0 : decode cX1_portionsAtFirst 0 = .ok (.iload_n 1, 1) := by decide +kernel
theorem dX1_portionsAtFirst_1 : decode cX1_portionsAtFirst 1 = .ok (.ifCond .lt 17, 3) := by decide +kernel
theorem dX1_portionsAtFirst_4 : decode cX1_portionsAtFirst 4 = .ok (.iload_n 1, 1) := by decide +kernel
theorem dX1_portionsAtFirst_5 : decode cX1_portionsAtFirst 5 = .ok (.iconst 3, 1) := by decide +kernel
theorem dX1_portionsAtFirst_6 : decode cX1_portionsAtFirst 6 = .ok (.if_icmp .ge 12, 3) := by decide +kernel
theorem dX1_portionsAtFirst_9 : decode cX1_portionsAtFirst 9 = .ok (.aload_n 0, 1) := by decide +kernel
theorem dX1_portionsAtFirst_10 : decode cX1_portionsAtFirst 10 = .ok (.getfield 20, 3) := by decide +kernel
theorem dX1_portionsAtFirst_13 : decode cX1_portionsAtFirst 13 = .ok (.iload_n 1, 1) := by decide +kernel
theorem dX1_portionsAtFirst_14 : decode cX1_portionsAtFirst 14 = .ok (.iaload, 1) := by decide +kernel
theorem dX1_portionsAtFirst_15 : decode cX1_portionsAtFirst 15 = .ok (.goto 4, 3) := by decide +kernel
theorem dX1_portionsAtFirst_18 : decode cX1_portionsAtFirst 18 = .ok (.iconst 0, 1) := by decide +kernel
theorem dX1_portionsAtFirst_19 : decode cX1_portionsAtFirst 19 = .ok (.ireturn, 1) := by decide +kernel
theorem dX1_warmthOf_0 : decode cX1_warmthOf 0 = .ok (.iload_n 1, 1) := by decide +kernel
theorem dX1_warmthOf_1 : decode cX1_warmthOf 1 = .ok (.ifCond .lt 18, 3) := by decide +kernel
theorem dX1_warmthOf_4 : decode cX1_warmthOf 4 = .ok (.iload_n 1, 1) := by decide +kernel
theorem dX1_warmthOf_5 : decode cX1_warmthOf 5 = .ok (.bipush 8, 2) := by decide +kernel
theorem dX1_warmthOf_7 : decode cX1_warmthOf 7 = .ok (.if_icmp .ge 12, 3) := by decide +kernel
theorem dX1_warmthOf_10 : decode cX1_warmthOf 10 = .ok (.aload_n 0, 1) := by decide +kernel
theorem dX1_warmthOf_11 : decode cX1_warmthOf 11 = .ok (.getfield 23, 3) := by decide +kernel
theorem dX1_warmthOf_14 : decode cX1_warmthOf 14 = .ok (.iload_n 1, 1) := by decide +kernel
theorem dX1_warmthOf_15 : decode cX1_warmthOf 15 = .ok (.iaload, 1) := by decide +kernel
theorem dX1_warmthOf_16 : decode cX1_warmthOf 16 = .ok (.goto 4, 3) := by decide +kernel
theorem dX1_warmthOf_19 : decode cX1_warmthOf 19 = .ok (.iconst 0, 1) := by decide +kernel
theorem dX1_warmthOf_20 : decode cX1_warmthOf 20 = .ok (.ireturn, 1) := by decide +kernel
theorem dX1_priceOf_0 : decode cX1_priceOf 0 = .ok (.iload_n 1, 1) := by decide +kernel
theorem dX1_priceOf_1 : decode cX1_priceOf 1 = .ok (.ifCond .lt 18, 3) := by decide +kernel
theorem dX1_priceOf_4 : decode cX1_priceOf 4 = .ok (.iload_n 1, 1) := by decide +kernel
theorem dX1_priceOf_5 : decode cX1_priceOf 5 = .ok (.bipush 8, 2) := by decide +kernel
theorem dX1_priceOf_7 : decode cX1_priceOf 7 = .ok (.if_icmp .ge 12, 3) := by decide +kernel
theorem dX1_priceOf_10 : decode cX1_priceOf 10 = .ok (.aload_n 0, 1) := by decide +kernel
theorem dX1_priceOf_11 : decode cX1_priceOf 11 = .ok (.getfield 26, 3) := by decide +kernel
theorem dX1_priceOf_14 : decode cX1_priceOf 14 = .ok (.iload_n 1, 1) := by decide +kernel
theorem dX1_priceOf_15 : decode cX1_priceOf 15 = .ok (.iaload, 1) := by decide +kernel
theorem dX1_priceOf_16 : decode cX1_priceOf 16 = .ok (.goto 4, 3) := by decide +kernel
theorem dX1_priceOf_19 : decode cX1_priceOf 19 = .ok (.iconst 0, 1) := by decide +kernel
theorem dX1_priceOf_20 : decode cX1_priceOf 20 = .ok (.ireturn, 1) := by decide +kernel
theorem dX1_startStand_0 : decode cX1_startStand 0 = .ok (.iconst 0, 1) := by decide +kernel
theorem dX1_startStand_1 : decode cX1_startStand 1 = .ok (.istore_n 1, 1) := by decide +kernel
theorem dX1_startStand_2 : decode cX1_startStand 2 = .ok (.iconst 0, 1) := by decide +kernel
theorem dX1_startStand_3 : decode cX1_startStand 3 = .ok (.istore_n 2, 1) := by decide +kernel
theorem dX1_startStand_4 : decode cX1_startStand 4 = .ok (.iload_n 2, 1) := by decide +kernel
theorem dX1_startStand_5 : decode cX1_startStand 5 = .ok (.iconst 3, 1) := by decide +kernel
theorem dX1_startStand_6 : decode cX1_startStand 6 = .ok (.if_icmp .ge 22, 3) := by decide +kernel
theorem dX1_startStand_9 : decode cX1_startStand 9 = .ok (.iload_n 1, 1) := by decide +kernel
theorem dX1_startStand_10 : decode cX1_startStand 10 = .ok (.iload_n 2, 1) := by decide +kernel
theorem dX1_startStand_11 : decode cX1_startStand 11 = .ok (.iconst 0, 1) := by decide +kernel
theorem dX1_startStand_12 : decode cX1_startStand 12 = .ok (.aload_n 0, 1) := by decide +kernel
theorem dX1_startStand_13 : decode cX1_startStand 13 = .ok (.iload_n 2, 1) := by decide +kernel
theorem dX1_startStand_14 : decode cX1_startStand 14 = .ok (.invokevirtual 54, 3) := by decide +kernel
theorem dX1_startStand_17 : decode cX1_startStand 17 = .ok (.invokestatic 58, 3) := by decide +kernel
theorem dX1_startStand_20 : decode cX1_startStand 20 = .ok (.ior, 1) := by decide +kernel
theorem dX1_startStand_21 : decode cX1_startStand 21 = .ok (.istore_n 1, 1) := by decide +kernel
theorem dX1_startStand_22 : decode cX1_startStand 22 = .ok (.iinc 2 1, 3) := by decide +kernel
theorem dX1_startStand_25 : decode cX1_startStand 25 = .ok (.goto (-21), 3) := by decide +kernel
theorem dX1_startStand_28 : decode cX1_startStand 28 = .ok (.iload_n 1, 1) := by decide +kernel
theorem dX1_startStand_29 : decode cX1_startStand 29 = .ok (.ireturn, 1) := by decide +kernel
theorem dX1_isWhole_0 : decode cX1_isWhole 0 = .ok (.iload_n 2, 1) := by decide +kernel
theorem dX1_isWhole_1 : decode cX1_isWhole 1 = .ok (.ifCond .lt 26, 3) := by decide +kernel
theorem dX1_isWhole_4 : decode cX1_isWhole 4 = .ok (.iload_n 2, 1) := by decide +kernel
theorem dX1_isWhole_5 : decode cX1_isWhole 5 = .ok (.iconst 3, 1) := by decide +kernel
theorem dX1_isWhole_6 : decode cX1_isWhole 6 = .ok (.if_icmp .ge 21, 3) := by decide +kernel
theorem dX1_isWhole_9 : decode cX1_isWhole 9 = .ok (.iload_n 1, 1) := by decide +kernel
theorem dX1_isWhole_10 : decode cX1_isWhole 10 = .ok (.iload_n 2, 1) := by decide +kernel
theorem dX1_isWhole_11 : decode cX1_isWhole 11 = .ok (.invokestatic 62, 3) := by decide +kernel
theorem dX1_isWhole_14 : decode cX1_isWhole 14 = .ok (.aload_n 0, 1) := by decide +kernel
theorem dX1_isWhole_15 : decode cX1_isWhole 15 = .ok (.getfield 20, 3) := by decide +kernel
theorem dX1_isWhole_18 : decode cX1_isWhole 18 = .ok (.iload_n 2, 1) := by decide +kernel
theorem dX1_isWhole_19 : decode cX1_isWhole 19 = .ok (.iaload, 1) := by decide +kernel
theorem dX1_isWhole_20 : decode cX1_isWhole 20 = .ok (.if_icmp .ne 7, 3) := by decide +kernel
theorem dX1_isWhole_23 : decode cX1_isWhole 23 = .ok (.iconst 1, 1) := by decide +kernel
theorem dX1_isWhole_24 : decode cX1_isWhole 24 = .ok (.goto 4, 3) := by decide +kernel
theorem dX1_isWhole_27 : decode cX1_isWhole 27 = .ok (.iconst 0, 1) := by decide +kernel
theorem dX1_isWhole_28 : decode cX1_isWhole 28 = .ok (.ireturn, 1) := by decide +kernel
theorem dX1_isOpen_0 : decode cX1_isOpen 0 = .ok (.iload_n 1, 1) := by decide +kernel
theorem dX1_isOpen_1 : decode cX1_isOpen 1 = .ok (.iload_n 2, 1) := by decide +kernel
theorem dX1_isOpen_2 : decode cX1_isOpen 2 = .ok (.invokestatic 62, 3) := by decide +kernel
theorem dX1_isOpen_5 : decode cX1_isOpen 5 = .ok (.ifCond .le 16, 3) := by decide +kernel
theorem dX1_isOpen_8 : decode cX1_isOpen 8 = .ok (.aload_n 0, 1) := by decide +kernel
theorem dX1_isOpen_9 : decode cX1_isOpen 9 = .ok (.iload_n 1, 1) := by decide +kernel
theorem dX1_isOpen_10 : decode cX1_isOpen 10 = .ok (.iload_n 2, 1) := by decide +kernel
theorem dX1_isOpen_11 : decode cX1_isOpen 11 = .ok (.invokevirtual 66, 3) := by decide +kernel
theorem dX1_isOpen_14 : decode cX1_isOpen 14 = .ok (.ifCond .ne 7, 3) := by decide +kernel
theorem dX1_isOpen_17 : decode cX1_isOpen 17 = .ok (.iconst 1, 1) := by decide +kernel
theorem dX1_isOpen_18 : decode cX1_isOpen 18 = .ok (.goto 4, 3) := by decide +kernel
theorem dX1_isOpen_21 : decode cX1_isOpen 21 = .ok (.iconst 0, 1) := by decide +kernel
theorem dX1_isOpen_22 : decode cX1_isOpen 22 = .ok (.ireturn, 1) := by decide +kernel
theorem dX1_countOpen_0 : decode cX1_countOpen 0 = .ok (.iconst 0, 1) := by decide +kernel
theorem dX1_countOpen_1 : decode cX1_countOpen 1 = .ok (.istore_n 2, 1) := by decide +kernel
theorem dX1_countOpen_2 : decode cX1_countOpen 2 = .ok (.iconst 0, 1) := by decide +kernel
theorem dX1_countOpen_3 : decode cX1_countOpen 3 = .ok (.istore_n 3, 1) := by decide +kernel
theorem dX1_countOpen_4 : decode cX1_countOpen 4 = .ok (.iload_n 3, 1) := by decide +kernel
theorem dX1_countOpen_5 : decode cX1_countOpen 5 = .ok (.iconst 3, 1) := by decide +kernel
theorem dX1_countOpen_6 : decode cX1_countOpen 6 = .ok (.if_icmp .ge 40, 3) := by decide +kernel
theorem dX1_countOpen_9 : decode cX1_countOpen 9 = .ok (.iload_n 1, 1) := by decide +kernel
theorem dX1_countOpen_10 : decode cX1_countOpen 10 = .ok (.iload_n 3, 1) := by decide +kernel
theorem dX1_countOpen_11 : decode cX1_countOpen 11 = .ok (.invokestatic 62, 3) := by decide +kernel
theorem dX1_countOpen_14 : decode cX1_countOpen 14 = .ok (.istore 4, 2) := by decide +kernel
theorem dX1_countOpen_16 : decode cX1_countOpen 16 = .ok (.iload_n 2, 1) := by decide +kernel
theorem dX1_countOpen_17 : decode cX1_countOpen 17 = .ok (.iload 4, 2) := by decide +kernel
theorem dX1_countOpen_19 : decode cX1_countOpen 19 = .ok (.ifCond .le 18, 3) := by decide +kernel
theorem dX1_countOpen_22 : decode cX1_countOpen 22 = .ok (.iload 4, 2) := by decide +kernel
theorem dX1_countOpen_24 : decode cX1_countOpen 24 = .ok (.aload_n 0, 1) := by decide +kernel
theorem dX1_countOpen_25 : decode cX1_countOpen 25 = .ok (.getfield 20, 3) := by decide +kernel
theorem dX1_countOpen_28 : decode cX1_countOpen 28 = .ok (.iload_n 3, 1) := by decide +kernel
theorem dX1_countOpen_29 : decode cX1_countOpen 29 = .ok (.iaload, 1) := by decide +kernel
theorem dX1_countOpen_30 : decode cX1_countOpen 30 = .ok (.if_icmp .ge 7, 3) := by decide +kernel
theorem dX1_countOpen_33 : decode cX1_countOpen 33 = .ok (.iconst 1, 1) := by decide +kernel
theorem dX1_countOpen_34 : decode cX1_countOpen 34 = .ok (.goto 4, 3) := by decide +kernel
theorem dX1_countOpen_37 : decode cX1_countOpen 37 = .ok (.iconst 0, 1) := by decide +kernel
theorem dX1_countOpen_38 : decode cX1_countOpen 38 = .ok (.iadd, 1) := by decide +kernel
theorem dX1_countOpen_39 : decode cX1_countOpen 39 = .ok (.istore_n 2, 1) := by decide +kernel
theorem dX1_countOpen_40 : decode cX1_countOpen 40 = .ok (.iinc 3 1, 3) := by decide +kernel
theorem dX1_countOpen_43 : decode cX1_countOpen 43 = .ok (.goto (-39), 3) := by decide +kernel
theorem dX1_countOpen_46 : decode cX1_countOpen 46 = .ok (.iload_n 2, 1) := by decide +kernel
theorem dX1_countOpen_47 : decode cX1_countOpen 47 = .ok (.ireturn, 1) := by decide +kernel
theorem dX1_goodNow_0 : decode cX1_goodNow 0 = .ok (.aload_n 0, 1) := by decide +kernel
theorem dX1_goodNow_1 : decode cX1_goodNow 1 = .ok (.aload_n 0, 1) := by decide +kernel
theorem dX1_goodNow_2 : decode cX1_goodNow 2 = .ok (.iload_n 2, 1) := by decide +kernel
theorem dX1_goodNow_3 : decode cX1_goodNow 3 = .ok (.invokevirtual 70, 3) := by decide +kernel
theorem dX1_goodNow_6 : decode cX1_goodNow 6 = .ok (.iconst 0, 1) := by decide +kernel
theorem dX1_goodNow_7 : decode cX1_goodNow 7 = .ok (.iload_n 1, 1) := by decide +kernel
theorem dX1_goodNow_8 : decode cX1_goodNow 8 = .ok (.iload_n 2, 1) := by decide +kernel
theorem dX1_goodNow_9 : decode cX1_goodNow 9 = .ok (.invokestatic 73, 3) := by decide +kernel
theorem dX1_goodNow_12 : decode cX1_goodNow 12 = .ok (.iadd, 1) := by decide +kernel
theorem dX1_goodNow_13 : decode cX1_goodNow 13 = .ok (.invokevirtual 76, 3) := by decide +kernel
theorem dX1_goodNow_16 : decode cX1_goodNow 16 = .ok (.ireturn, 1) := by decide +kernel
theorem dX1_mayEat_0 : decode cX1_mayEat 0 = .ok (.aload_n 0, 1) := by decide +kernel
theorem dX1_mayEat_1 : decode cX1_mayEat 1 = .ok (.iload_n 2, 1) := by decide +kernel
theorem dX1_mayEat_2 : decode cX1_mayEat 2 = .ok (.invokevirtual 79, 3) := by decide +kernel
theorem dX1_mayEat_5 : decode cX1_mayEat 5 = .ok (.ifCond .eq 11, 3) := by decide +kernel
theorem dX1_mayEat_8 : decode cX1_mayEat 8 = .ok (.iload_n 1, 1) := by decide +kernel
theorem dX1_mayEat_9 : decode cX1_mayEat 9 = .ok (.iload_n 2, 1) := by decide +kernel
theorem dX1_mayEat_10 : decode cX1_mayEat 10 = .ok (.invokestatic 62, 3) := by decide +kernel
theorem dX1_mayEat_13 : decode cX1_mayEat 13 = .ok (.ifCond .ne 5, 3) := by decide +kernel
theorem dX1_mayEat_16 : decode cX1_mayEat 16 = .ok (.iconst 0, 1) := by decide +kernel
theorem dX1_mayEat_17 : decode cX1_mayEat 17 = .ok (.ireturn, 1) := by decide +kernel
theorem dX1_mayEat_18 : decode cX1_mayEat 18 = .ok (.aload_n 0, 1) := by decide +kernel
theorem dX1_mayEat_19 : decode cX1_mayEat 19 = .ok (.iload_n 1, 1) := by decide +kernel
theorem dX1_mayEat_20 : decode cX1_mayEat 20 = .ok (.iload_n 2, 1) := by decide +kernel
theorem dX1_mayEat_21 : decode cX1_mayEat 21 = .ok (.invokevirtual 66, 3) := by decide +kernel
theorem dX1_mayEat_24 : decode cX1_mayEat 24 = .ok (.ifCond .eq 15, 3) := by decide +kernel
theorem dX1_mayEat_27 : decode cX1_mayEat 27 = .ok (.aload_n 0, 1) := by decide +kernel
theorem dX1_mayEat_28 : decode cX1_mayEat 28 = .ok (.iload_n 1, 1) := by decide +kernel
theorem dX1_mayEat_29 : decode cX1_mayEat 29 = .ok (.invokevirtual 83, 3) := by decide +kernel
theorem dX1_mayEat_32 : decode cX1_mayEat 32 = .ok (.aload_n 0, 1) := by decide +kernel
theorem dX1_mayEat_33 : decode cX1_mayEat 33 = .ok (.getfield 39, 3) := by decide +kernel
theorem dX1_mayEat_36 : decode cX1_mayEat 36 = .ok (.if_icmp .ge 7, 3) := by decide +kernel
theorem dX1_mayEat_39 : decode cX1_mayEat 39 = .ok (.iconst 1, 1) := by decide +kernel
theorem dX1_mayEat_40 : decode cX1_mayEat 40 = .ok (.goto 4, 3) := by decide +kernel
theorem dX1_mayEat_43 : decode cX1_mayEat 43 = .ok (.iconst 0, 1) := by decide +kernel
theorem dX1_mayEat_44 : decode cX1_mayEat 44 = .ok (.ireturn, 1) := by decide +kernel
theorem dX1_maySell_0 : decode cX1_maySell 0 = .ok (.aload_n 0, 1) := by decide +kernel
theorem dX1_maySell_1 : decode cX1_maySell 1 = .ok (.iload_n 2, 1) := by decide +kernel
theorem dX1_maySell_2 : decode cX1_maySell 2 = .ok (.invokevirtual 79, 3) := by decide +kernel
theorem dX1_maySell_5 : decode cX1_maySell 5 = .ok (.ifCond .eq 25, 3) := by decide +kernel
theorem dX1_maySell_8 : decode cX1_maySell 8 = .ok (.aload_n 0, 1) := by decide +kernel
theorem dX1_maySell_9 : decode cX1_maySell 9 = .ok (.iload_n 1, 1) := by decide +kernel
theorem dX1_maySell_10 : decode cX1_maySell 10 = .ok (.iload_n 2, 1) := by decide +kernel
theorem dX1_maySell_11 : decode cX1_maySell 11 = .ok (.invokevirtual 66, 3) := by decide +kernel
theorem dX1_maySell_14 : decode cX1_maySell 14 = .ok (.ifCond .eq 16, 3) := by decide +kernel
theorem dX1_maySell_17 : decode cX1_maySell 17 = .ok (.iload_n 1, 1) := by decide +kernel
theorem dX1_maySell_18 : decode cX1_maySell 18 = .ok (.iload_n 2, 1) := by decide +kernel
theorem dX1_maySell_19 : decode cX1_maySell 19 = .ok (.invokestatic 73, 3) := by decide +kernel
theorem dX1_maySell_22 : decode cX1_maySell 22 = .ok (.iconst 1, 1) := by decide +kernel
theorem dX1_maySell_23 : decode cX1_maySell 23 = .ok (.if_icmp .gt 7, 3) := by decide +kernel
theorem dX1_maySell_26 : decode cX1_maySell 26 = .ok (.iconst 1, 1) := by decide +kernel
theorem dX1_maySell_27 : decode cX1_maySell 27 = .ok (.goto 4, 3) := by decide +kernel
theorem dX1_maySell_30 : decode cX1_maySell 30 = .ok (.iconst 0, 1) := by decide +kernel
theorem dX1_maySell_31 : decode cX1_maySell 31 = .ok (.ireturn, 1) := by decide +kernel
theorem dX1_mayBe_0 : decode cX1_mayBe 0 = .ok (.iload_n 2, 1) := by decide +kernel
theorem dX1_mayBe_1 : decode cX1_mayBe 1 = .ok (.iconst 3, 1) := by decide +kernel
theorem dX1_mayBe_2 : decode cX1_mayBe 2 = .ok (.if_icmp .ge 10, 3) := by decide +kernel
theorem dX1_mayBe_5 : decode cX1_mayBe 5 = .ok (.aload_n 0, 1) := by decide +kernel
theorem dX1_mayBe_6 : decode cX1_mayBe 6 = .ok (.iload_n 1, 1) := by decide +kernel
theorem dX1_mayBe_7 : decode cX1_mayBe 7 = .ok (.iload_n 2, 1) := by decide +kernel
theorem dX1_mayBe_8 : decode cX1_mayBe 8 = .ok (.invokevirtual 86, 3) := by decide +kernel
theorem dX1_mayBe_11 : decode cX1_mayBe 11 = .ok (.ireturn, 1) := by decide +kernel
theorem dX1_mayBe_12 : decode cX1_mayBe 12 = .ok (.iload_n 2, 1) := by decide +kernel
theorem dX1_mayBe_13 : decode cX1_mayBe 13 = .ok (.bipush 6, 2) := by decide +kernel
theorem dX1_mayBe_15 : decode cX1_mayBe 15 = .ok (.if_icmp .eq 14, 3) := by decide +kernel
theorem dX1_mayBe_18 : decode cX1_mayBe 18 = .ok (.aload_n 0, 1) := by decide +kernel
theorem dX1_mayBe_19 : decode cX1_mayBe 19 = .ok (.iload_n 1, 1) := by decide +kernel
theorem dX1_mayBe_20 : decode cX1_mayBe 20 = .ok (.iload_n 2, 1) := by decide +kernel
theorem dX1_mayBe_21 : decode cX1_mayBe 21 = .ok (.iconst 3, 1) := by decide +kernel
theorem dX1_mayBe_22 : decode cX1_mayBe 22 = .ok (.isub, 1) := by decide +kernel
theorem dX1_mayBe_23 : decode cX1_mayBe 23 = .ok (.invokevirtual 89, 3) := by decide +kernel
theorem dX1_mayBe_26 : decode cX1_mayBe 26 = .ok (.ifCond .eq 7, 3) := by decide +kernel
theorem dX1_mayBe_29 : decode cX1_mayBe 29 = .ok (.iconst 1, 1) := by decide +kernel
theorem dX1_mayBe_30 : decode cX1_mayBe 30 = .ok (.goto 4, 3) := by decide +kernel
theorem dX1_mayBe_33 : decode cX1_mayBe 33 = .ok (.iconst 0, 1) := by decide +kernel
theorem dX1_mayBe_34 : decode cX1_mayBe 34 = .ok (.ireturn, 1) := by decide +kernel
theorem dX1_hadBy_0 : decode cX1_hadBy 0 = .ok (.iload_n 2, 1) := by decide +kernel
theorem dX1_hadBy_1 : decode cX1_hadBy 1 = .ok (.bipush 6, 2) := by decide +kernel
theorem dX1_hadBy_3 : decode cX1_hadBy 3 = .ok (.if_icmp .ne 5, 3) := by decide +kernel
theorem dX1_hadBy_6 : decode cX1_hadBy 6 = .ok (.iconst 0, 1) := by decide +kernel
theorem dX1_hadBy_7 : decode cX1_hadBy 7 = .ok (.ireturn, 1) := by decide +kernel
theorem dX1_hadBy_8 : decode cX1_hadBy 8 = .ok (.iload_n 2, 1) := by decide +kernel
theorem dX1_hadBy_9 : decode cX1_hadBy 9 = .ok (.iconst 3, 1) := by decide +kernel
theorem dX1_hadBy_10 : decode cX1_hadBy 10 = .ok (.if_icmp .ge 10, 3) := by decide +kernel
theorem dX1_hadBy_13 : decode cX1_hadBy 13 = .ok (.aload_n 0, 1) := by decide +kernel
theorem dX1_hadBy_14 : decode cX1_hadBy 14 = .ok (.iload_n 1, 1) := by decide +kernel
theorem dX1_hadBy_15 : decode cX1_hadBy 15 = .ok (.iload_n 2, 1) := by decide +kernel
theorem dX1_hadBy_16 : decode cX1_hadBy 16 = .ok (.invokevirtual 92, 3) := by decide +kernel
theorem dX1_hadBy_19 : decode cX1_hadBy 19 = .ok (.ireturn, 1) := by decide +kernel
theorem dX1_hadBy_20 : decode cX1_hadBy 20 = .ok (.iload_n 1, 1) := by decide +kernel
theorem dX1_hadBy_21 : decode cX1_hadBy 21 = .ok (.iload_n 2, 1) := by decide +kernel
theorem dX1_hadBy_22 : decode cX1_hadBy 22 = .ok (.iconst 3, 1) := by decide +kernel
theorem dX1_hadBy_23 : decode cX1_hadBy 23 = .ok (.isub, 1) := by decide +kernel
theorem dX1_hadBy_24 : decode cX1_hadBy 24 = .ok (.invokestatic 62, 3) := by decide +kernel
theorem dX1_hadBy_27 : decode cX1_hadBy 27 = .ok (.aload_n 0, 1) := by decide +kernel
theorem dX1_hadBy_28 : decode cX1_hadBy 28 = .ok (.iload_n 3, 1) := by decide +kernel
theorem dX1_hadBy_29 : decode cX1_hadBy 29 = .ok (.invokevirtual 95, 3) := by decide +kernel
theorem dX1_hadBy_32 : decode cX1_hadBy 32 = .ok (.imul, 1) := by decide +kernel
theorem dX1_hadBy_33 : decode cX1_hadBy 33 = .ok (.ireturn, 1) := by decide +kernel
theorem dX1_standAfter_0 : decode cX1_standAfter 0 = .ok (.iload_n 2, 1) := by decide +kernel
theorem dX1_standAfter_1 : decode cX1_standAfter 1 = .ok (.bipush 6, 2) := by decide +kernel
theorem dX1_standAfter_3 : decode cX1_standAfter 3 = .ok (.if_icmp .ne 5, 3) := by decide +kernel
theorem dX1_standAfter_6 : decode cX1_standAfter 6 = .ok (.iload_n 1, 1) := by decide +kernel
theorem dX1_standAfter_7 : decode cX1_standAfter 7 = .ok (.ireturn, 1) := by decide +kernel
theorem dX1_standAfter_8 : decode cX1_standAfter 8 = .ok (.iload_n 2, 1) := by decide +kernel
theorem dX1_standAfter_9 : decode cX1_standAfter 9 = .ok (.iconst 3, 1) := by decide +kernel
theorem dX1_standAfter_10 : decode cX1_standAfter 10 = .ok (.if_icmp .ge 12, 3) := by decide +kernel
theorem dX1_standAfter_13 : decode cX1_standAfter 13 = .ok (.iload_n 1, 1) := by decide +kernel
theorem dX1_standAfter_14 : decode cX1_standAfter 14 = .ok (.iload_n 2, 1) := by decide +kernel
theorem dX1_standAfter_15 : decode cX1_standAfter 15 = .ok (.iconst 0, 1) := by decide +kernel
theorem dX1_standAfter_16 : decode cX1_standAfter 16 = .ok (.iconst 1, 1) := by decide +kernel
theorem dX1_standAfter_17 : decode cX1_standAfter 17 = .ok (.invokestatic 58, 3) := by decide +kernel
theorem dX1_standAfter_20 : decode cX1_standAfter 20 = .ok (.isub, 1) := by decide +kernel
theorem dX1_standAfter_21 : decode cX1_standAfter 21 = .ok (.ireturn, 1) := by decide +kernel
theorem dX1_standAfter_22 : decode cX1_standAfter 22 = .ok (.iload_n 2, 1) := by decide +kernel
theorem dX1_standAfter_23 : decode cX1_standAfter 23 = .ok (.iconst 3, 1) := by decide +kernel
theorem dX1_standAfter_24 : decode cX1_standAfter 24 = .ok (.isub, 1) := by decide +kernel
theorem dX1_standAfter_25 : decode cX1_standAfter 25 = .ok (.istore_n 3, 1) := by decide +kernel
theorem dX1_standAfter_26 : decode cX1_standAfter 26 = .ok (.iload_n 1, 1) := by decide +kernel
theorem dX1_standAfter_27 : decode cX1_standAfter 27 = .ok (.iload_n 3, 1) := by decide +kernel
theorem dX1_standAfter_28 : decode cX1_standAfter 28 = .ok (.iconst 0, 1) := by decide +kernel
theorem dX1_standAfter_29 : decode cX1_standAfter 29 = .ok (.iload_n 1, 1) := by decide +kernel
theorem dX1_standAfter_30 : decode cX1_standAfter 30 = .ok (.iload_n 3, 1) := by decide +kernel
theorem dX1_standAfter_31 : decode cX1_standAfter 31 = .ok (.invokestatic 62, 3) := by decide +kernel
theorem dX1_standAfter_34 : decode cX1_standAfter 34 = .ok (.invokestatic 58, 3) := by decide +kernel
theorem dX1_standAfter_37 : decode cX1_standAfter 37 = .ok (.isub, 1) := by decide +kernel
theorem dX1_standAfter_38 : decode cX1_standAfter 38 = .ok (.ireturn, 1) := by decide +kernel
theorem dX1_mayGoOn_0 : decode cX1_mayGoOn 0 = .ok (.iload_n 1, 1) := by decide +kernel
theorem dX1_mayGoOn_1 : decode cX1_mayGoOn 1 = .ok (.iload_n 3, 1) := by decide +kernel
theorem dX1_mayGoOn_2 : decode cX1_mayGoOn 2 = .ok (.invokestatic 62, 3) := by decide +kernel
theorem dX1_mayGoOn_5 : decode cX1_mayGoOn 5 = .ok (.ifCond .le 24, 3) := by decide +kernel
theorem dX1_mayGoOn_8 : decode cX1_mayGoOn 8 = .ok (.iload_n 2, 1) := by decide +kernel
theorem dX1_mayGoOn_9 : decode cX1_mayGoOn 9 = .ok (.iload_n 3, 1) := by decide +kernel
theorem dX1_mayGoOn_10 : decode cX1_mayGoOn 10 = .ok (.invokestatic 98, 3) := by decide +kernel
theorem dX1_mayGoOn_13 : decode cX1_mayGoOn 13 = .ok (.ifCond .ne 16, 3) := by decide +kernel
theorem dX1_mayGoOn_16 : decode cX1_mayGoOn 16 = .ok (.iload_n 1, 1) := by decide +kernel
theorem dX1_mayGoOn_17 : decode cX1_mayGoOn 17 = .ok (.iload_n 3, 1) := by decide +kernel
theorem dX1_mayGoOn_18 : decode cX1_mayGoOn 18 = .ok (.invokestatic 73, 3) := by decide +kernel
theorem dX1_mayGoOn_21 : decode cX1_mayGoOn 21 = .ok (.iconst 3, 1) := by decide +kernel
theorem dX1_mayGoOn_22 : decode cX1_mayGoOn 22 = .ok (.if_icmp .ge 7, 3) := by decide +kernel
theorem dX1_mayGoOn_25 : decode cX1_mayGoOn 25 = .ok (.iconst 1, 1) := by decide +kernel
theorem dX1_mayGoOn_26 : decode cX1_mayGoOn 26 = .ok (.goto 4, 3) := by decide +kernel
theorem dX1_mayGoOn_29 : decode cX1_mayGoOn 29 = .ok (.iconst 0, 1) := by decide +kernel
theorem dX1_mayGoOn_30 : decode cX1_mayGoOn 30 = .ok (.ireturn, 1) := by decide +kernel
theorem dX1_tenthsNow_0 : decode cX1_tenthsNow 0 = .ok (.aload_n 0, 1) := by decide +kernel
theorem dX1_tenthsNow_1 : decode cX1_tenthsNow 1 = .ok (.iload_n 1, 1) := by decide +kernel
theorem dX1_tenthsNow_2 : decode cX1_tenthsNow 2 = .ok (.iload_n 2, 1) := by decide +kernel
theorem dX1_tenthsNow_3 : decode cX1_tenthsNow 3 = .ok (.iload_n 3, 1) := by decide +kernel
theorem dX1_tenthsNow_4 : decode cX1_tenthsNow 4 = .ok (.invokevirtual 101, 3) := by decide +kernel
theorem dX1_tenthsNow_7 : decode cX1_tenthsNow 7 = .ok (.ifCond .ne 5, 3) := by decide +kernel
theorem dX1_tenthsNow_10 : decode cX1_tenthsNow 10 = .ok (.iconst 0, 1) := by decide +kernel
theorem dX1_tenthsNow_11 : decode cX1_tenthsNow 11 = .ok (.ireturn, 1) := by decide +kernel
theorem dX1_tenthsNow_12 : decode cX1_tenthsNow 12 = .ok (.aload_n 0, 1) := by decide +kernel
theorem dX1_tenthsNow_13 : decode cX1_tenthsNow 13 = .ok (.aload_n 0, 1) := by decide +kernel
theorem dX1_tenthsNow_14 : decode cX1_tenthsNow 14 = .ok (.iload_n 3, 1) := by decide +kernel
theorem dX1_tenthsNow_15 : decode cX1_tenthsNow 15 = .ok (.invokevirtual 70, 3) := by decide +kernel
theorem dX1_tenthsNow_18 : decode cX1_tenthsNow 18 = .ok (.iload_n 1, 1) := by decide +kernel
theorem dX1_tenthsNow_19 : decode cX1_tenthsNow 19 = .ok (.iload_n 3, 1) := by decide +kernel
theorem dX1_tenthsNow_20 : decode cX1_tenthsNow 20 = .ok (.invokestatic 73, 3) := by decide +kernel
theorem dX1_tenthsNow_23 : decode cX1_tenthsNow 23 = .ok (.aload_n 0, 1) := by decide +kernel
theorem dX1_tenthsNow_24 : decode cX1_tenthsNow 24 = .ok (.iload_n 1, 1) := by decide +kernel
theorem dX1_tenthsNow_25 : decode cX1_tenthsNow 25 = .ok (.iload_n 3, 1) := by decide +kernel
theorem dX1_tenthsNow_26 : decode cX1_tenthsNow 26 = .ok (.invokevirtual 66, 3) := by decide +kernel
theorem dX1_tenthsNow_29 : decode cX1_tenthsNow 29 = .ok (.ifCond .ne 7, 3) := by decide +kernel
theorem dX1_tenthsNow_32 : decode cX1_tenthsNow 32 = .ok (.iconst 1, 1) := by decide +kernel
theorem dX1_tenthsNow_33 : decode cX1_tenthsNow 33 = .ok (.goto 4, 3) := by decide +kernel
theorem dX1_tenthsNow_36 : decode cX1_tenthsNow 36 = .ok (.iconst 0, 1) := by decide +kernel
theorem dX1_tenthsNow_37 : decode cX1_tenthsNow 37 = .ok (.iload 4, 2) := by decide +kernel
theorem dX1_tenthsNow_39 : decode cX1_tenthsNow 39 = .ok (.invokevirtual 105, 3) := by decide +kernel
theorem dX1_tenthsNow_42 : decode cX1_tenthsNow 42 = .ok (.ireturn, 1) := by decide +kernel
theorem dX1_tenths_0 : decode cX1_tenths 0 = .ok (.iload_n 2, 1) := by decide +kernel
theorem dX1_tenths_1 : decode cX1_tenths 1 = .ok (.ifCond .lt 8, 3) := by decide +kernel
theorem dX1_tenths_4 : decode cX1_tenths 4 = .ok (.iload_n 2, 1) := by decide +kernel
theorem dX1_tenths_5 : decode cX1_tenths 5 = .ok (.iconst 3, 1) := by decide +kernel
theorem dX1_tenths_6 : decode cX1_tenths 6 = .ok (.if_icmp .lt 5, 3) := by decide +kernel
theorem dX1_tenths_9 : decode cX1_tenths 9 = .ok (.iconst 0, 1) := by decide +kernel
theorem dX1_tenths_10 : decode cX1_tenths 10 = .ok (.ireturn, 1) := by decide +kernel
theorem dX1_tenths_11 : decode cX1_tenths 11 = .ok (.aload_n 0, 1) := by decide +kernel
theorem dX1_tenths_12 : decode cX1_tenths 12 = .ok (.iload_n 1, 1) := by decide +kernel
theorem dX1_tenths_13 : decode cX1_tenths 13 = .ok (.iload_n 3, 1) := by decide +kernel
theorem dX1_tenths_14 : decode cX1_tenths 14 = .ok (.ifCond .eq 8, 3) := by decide +kernel
theorem dX1_tenths_17 : decode cX1_tenths 17 = .ok (.bipush 7, 2) := by decide +kernel
theorem dX1_tenths_19 : decode cX1_tenths 19 = .ok (.goto 4, 3) := by decide +kernel
theorem dX1_tenths_22 : decode cX1_tenths 22 = .ok (.iconst 4, 1) := by decide +kernel
theorem dX1_tenths_23 : decode cX1_tenths 23 = .ok (.iload_n 2, 1) := by decide +kernel
theorem dX1_tenths_24 : decode cX1_tenths 24 = .ok (.iadd, 1) := by decide +kernel
theorem dX1_tenths_25 : decode cX1_tenths 25 = .ok (.invokevirtual 76, 3) := by decide +kernel
theorem dX1_tenths_28 : decode cX1_tenths 28 = .ok (.istore 5, 2) := by decide +kernel
theorem dX1_tenths_30 : decode cX1_tenths 30 = .ok (.iload 5, 2) := by decide +kernel
theorem dX1_tenths_32 : decode cX1_tenths 32 = .ok (.ifCond .ne 7, 3) := by decide +kernel
theorem dX1_tenths_35 : decode cX1_tenths 35 = .ok (.iconst 0, 1) := by decide +kernel
theorem dX1_tenths_36 : decode cX1_tenths 36 = .ok (.goto 17, 3) := by decide +kernel
theorem dX1_tenths_39 : decode cX1_tenths 39 = .ok (.bipush 10, 2) := by decide +kernel
theorem dX1_tenths_41 : decode cX1_tenths 41 = .ok (.iload 5, 2) := by decide +kernel
theorem dX1_tenths_43 : decode cX1_tenths 43 = .ok (.aload_n 0, 1) := by decide +kernel
theorem dX1_tenths_44 : decode cX1_tenths 44 = .ok (.iload 4, 2) := by decide +kernel
theorem dX1_tenths_46 : decode cX1_tenths 46 = .ok (.invokevirtual 109, 3) := by decide +kernel
theorem dX1_tenths_49 : decode cX1_tenths 49 = .ok (.iadd, 1) := by decide +kernel
theorem dX1_tenths_50 : decode cX1_tenths 50 = .ok (.invokestatic 112, 3) := by decide +kernel
theorem dX1_tenths_53 : decode cX1_tenths 53 = .ok (.ireturn, 1) := by decide +kernel
theorem dX2_init_0 : decode cX2_init 0 = .ok (.aload_n 0, 1) := by decide +kernel
theorem dX2_init_1 : decode cX2_init 1 = .ok (.invokespecial 3, 3) := by decide +kernel
theorem dX2_init_4 : decode cX2_init 4 = .ok (.aload_n 0, 1) := by decide +kernel
theorem dX2_init_5 : decode cX2_init 5 = .ok (.lconst 0, 1) := by decide +kernel
theorem dX2_init_6 : decode cX2_init 6 = .ok (.putfield 9, 3) := by decide +kernel
theorem dX2_init_9 : decode cX2_init 9 = .ok (.aload_n 0, 1) := by decide +kernel
theorem dX2_init_10 : decode cX2_init 10 = .ok (.aload_n 1, 1) := by decide +kernel
theorem dX2_init_11 : decode cX2_init 11 = .ok (.putfield 15, 3) := by decide +kernel
theorem dX2_init_14 : decode cX2_init 14 = .ok (.return_, 1) := by decide +kernel
theorem dX2_byKind_0 : decode cX2_byKind 0 = .ok (.iload_n 1, 1) := by decide +kernel
theorem dX2_byKind_1 : decode cX2_byKind 1 = .ok (.tableswitch 81 0 5 #[39, 46, 53, 60, 67, 74], 39) := by decide +kernel
theorem dX2_byKind_40 : decode cX2_byKind 40 = .ok (.aload_n 0, 1) := by decide +kernel
theorem dX2_byKind_41 : decode cX2_byKind 41 = .ok (.iload_n 2, 1) := by decide +kernel
theorem dX2_byKind_42 : decode cX2_byKind 42 = .ok (.iload_n 3, 1) := by decide +kernel
theorem dX2_byKind_43 : decode cX2_byKind 43 = .ok (.invokevirtual 19, 3) := by decide +kernel
theorem dX2_byKind_46 : decode cX2_byKind 46 = .ok (.ireturn, 1) := by decide +kernel
theorem dX2_byKind_47 : decode cX2_byKind 47 = .ok (.aload_n 0, 1) := by decide +kernel
theorem dX2_byKind_48 : decode cX2_byKind 48 = .ok (.iload_n 2, 1) := by decide +kernel
theorem dX2_byKind_49 : decode cX2_byKind 49 = .ok (.iload_n 3, 1) := by decide +kernel
theorem dX2_byKind_50 : decode cX2_byKind 50 = .ok (.invokevirtual 23, 3) := by decide +kernel
theorem dX2_byKind_53 : decode cX2_byKind 53 = .ok (.ireturn, 1) := by decide +kernel
theorem dX2_byKind_54 : decode cX2_byKind 54 = .ok (.aload_n 0, 1) := by decide +kernel
theorem dX2_byKind_55 : decode cX2_byKind 55 = .ok (.iload_n 2, 1) := by decide +kernel
theorem dX2_byKind_56 : decode cX2_byKind 56 = .ok (.iload_n 3, 1) := by decide +kernel
theorem dX2_byKind_57 : decode cX2_byKind 57 = .ok (.invokevirtual 26, 3) := by decide +kernel
theorem dX2_byKind_60 : decode cX2_byKind 60 = .ok (.ireturn, 1) := by decide +kernel
theorem dX2_byKind_61 : decode cX2_byKind 61 = .ok (.aload_n 0, 1) := by decide +kernel
theorem dX2_byKind_62 : decode cX2_byKind 62 = .ok (.iload_n 2, 1) := by decide +kernel
theorem dX2_byKind_63 : decode cX2_byKind 63 = .ok (.iload_n 3, 1) := by decide +kernel
theorem dX2_byKind_64 : decode cX2_byKind 64 = .ok (.invokevirtual 29, 3) := by decide +kernel
theorem dX2_byKind_67 : decode cX2_byKind 67 = .ok (.ireturn, 1) := by decide +kernel
theorem dX2_byKind_68 : decode cX2_byKind 68 = .ok (.aload_n 0, 1) := by decide +kernel
theorem dX2_byKind_69 : decode cX2_byKind 69 = .ok (.iload_n 2, 1) := by decide +kernel
theorem dX2_byKind_70 : decode cX2_byKind 70 = .ok (.iload_n 3, 1) := by decide +kernel
theorem dX2_byKind_71 : decode cX2_byKind 71 = .ok (.invokevirtual 32, 3) := by decide +kernel
theorem dX2_byKind_74 : decode cX2_byKind 74 = .ok (.ireturn, 1) := by decide +kernel
theorem dX2_byKind_75 : decode cX2_byKind 75 = .ok (.aload_n 0, 1) := by decide +kernel
theorem dX2_byKind_76 : decode cX2_byKind 76 = .ok (.iload_n 2, 1) := by decide +kernel
theorem dX2_byKind_77 : decode cX2_byKind 77 = .ok (.iload_n 3, 1) := by decide +kernel
theorem dX2_byKind_78 : decode cX2_byKind 78 = .ok (.invokevirtual 35, 3) := by decide +kernel
theorem dX2_byKind_81 : decode cX2_byKind 81 = .ok (.ireturn, 1) := by decide +kernel
theorem dX2_byKind_82 : decode cX2_byKind 82 = .ok (.ldc 38, 2) := by decide +kernel
theorem dX2_byKind_84 : decode cX2_byKind 84 = .ok (.ireturn, 1) := by decide +kernel
theorem dX2_asRule_0 : decode cX2_asRule 0 = .ok (.aload_n 0, 1) := by decide +kernel
theorem dX2_asRule_1 : decode cX2_asRule 1 = .ok (.dup, 1) := by decide +kernel
theorem dX2_asRule_2 : decode cX2_asRule 2 = .ok (.getfield 9, 3) := by decide +kernel
theorem dX2_asRule_5 : decode cX2_asRule 5 = .ok (.lconst 1, 1) := by decide +kernel
theorem dX2_asRule_6 : decode cX2_asRule 6 = .ok (.ladd, 1) := by decide +kernel
theorem dX2_asRule_7 : decode cX2_asRule 7 = .ok (.putfield 9, 3) := by decide +kernel
theorem dX2_asRule_10 : decode cX2_asRule 10 = .ok (.iload_n 1, 1) := by decide +kernel
theorem dX2_asRule_11 : decode cX2_asRule 11 = .ok (.iload_n 2, 1) := by decide +kernel
theorem dX2_asRule_12 : decode cX2_asRule 12 = .ok (.invokestatic 39, 3) := by decide +kernel
theorem dX2_asRule_15 : decode cX2_asRule 15 = .ok (.ireturn, 1) := by decide +kernel
theorem dX2_asOld_0 : decode cX2_asOld 0 = .ok (.aload_n 0, 1) := by decide +kernel
theorem dX2_asOld_1 : decode cX2_asOld 1 = .ok (.dup, 1) := by decide +kernel
theorem dX2_asOld_2 : decode cX2_asOld 2 = .ok (.getfield 9, 3) := by decide +kernel
theorem dX2_asOld_5 : decode cX2_asOld 5 = .ok (.ldc2_w 42, 3) := by decide +kernel
theorem dX2_asOld_8 : decode cX2_asOld 8 = .ok (.ladd, 1) := by decide +kernel
theorem dX2_asOld_9 : decode cX2_asOld 9 = .ok (.putfield 9, 3) := by decide +kernel
theorem dX2_asOld_12 : decode cX2_asOld 12 = .ok (.aload_n 0, 1) := by decide +kernel
theorem dX2_asOld_13 : decode cX2_asOld 13 = .ok (.iload_n 1, 1) := by decide +kernel
theorem dX2_asOld_14 : decode cX2_asOld 14 = .ok (.iload_n 2, 1) := by decide +kernel
theorem dX2_asOld_15 : decode cX2_asOld 15 = .ok (.invokevirtual 19, 3) := by decide +kernel
theorem dX2_asOld_18 : decode cX2_asOld 18 = .ok (.iload_n 1, 1) := by decide +kernel
theorem dX2_asOld_19 : decode cX2_asOld 19 = .ok (.iload_n 2, 1) := by decide +kernel
theorem dX2_asOld_20 : decode cX2_asOld 20 = .ok (.invokestatic 44, 3) := by decide +kernel
theorem dX2_asOld_23 : decode cX2_asOld 23 = .ok (.iadd, 1) := by decide +kernel
theorem dX2_asOld_24 : decode cX2_asOld 24 = .ok (.ireturn, 1) := by decide +kernel
theorem dX2_asBest_0 : decode cX2_asBest 0 = .ok (.aload_n 0, 1) := by decide +kernel
theorem dX2_asBest_1 : decode cX2_asBest 1 = .ok (.dup, 1) := by decide +kernel
theorem dX2_asBest_2 : decode cX2_asBest 2 = .ok (.getfield 9, 3) := by decide +kernel
theorem dX2_asBest_5 : decode cX2_asBest 5 = .ok (.ldc2_w 47, 3) := by decide +kernel
theorem dX2_asBest_8 : decode cX2_asBest 8 = .ok (.ladd, 1) := by decide +kernel
theorem dX2_asBest_9 : decode cX2_asBest 9 = .ok (.putfield 9, 3) := by decide +kernel
theorem dX2_asBest_12 : decode cX2_asBest 12 = .ok (.aload_n 0, 1) := by decide +kernel
theorem dX2_asBest_13 : decode cX2_asBest 13 = .ok (.iload_n 1, 1) := by decide +kernel
theorem dX2_asBest_14 : decode cX2_asBest 14 = .ok (.iload_n 2, 1) := by decide +kernel
theorem dX2_asBest_15 : decode cX2_asBest 15 = .ok (.invokevirtual 19, 3) := by decide +kernel
theorem dX2_asBest_18 : decode cX2_asBest 18 = .ok (.aload_n 0, 1) := by decide +kernel
theorem dX2_asBest_19 : decode cX2_asBest 19 = .ok (.getfield 15, 3) := by decide +kernel
theorem dX2_asBest_22 : decode cX2_asBest 22 = .ok (.iload_n 1, 1) := by decide +kernel
theorem dX2_asBest_23 : decode cX2_asBest 23 = .ok (.iload_n 2, 1) := by decide +kernel
theorem dX2_asBest_24 : decode cX2_asBest 24 = .ok (.invokevirtual 49, 3) := by decide +kernel
theorem dX2_asBest_27 : decode cX2_asBest 27 = .ok (.imul, 1) := by decide +kernel
theorem dX2_asBest_28 : decode cX2_asBest 28 = .ok (.ireturn, 1) := by decide +kernel
end
section
theorem dX2_asLook_0 : decode cX2_asLook 0 = .ok (.aload_n 0, 1) := by decide +kernel
theorem dX2_asLook_1 : decode cX2_asLook 1 = .ok (.dup, 1) := by decide +kernel
theorem dX2_asLook_2 : decode cX2_asLook 2 = .ok (.getfield 9, 3) := by decide +kernel
theorem dX2_asLook_5 : decode cX2_asLook 5 = .ok (.ldc2_w 54, 3) := by decide +kernel
theorem dX2_asLook_8 : decode cX2_asLook 8 = .ok (.ladd, 1) := by decide +kernel
theorem dX2_asLook_9 : decode cX2_asLook 9 = .ok (.putfield 9, 3) := by decide +kernel
theorem dX2_asLook_12 : decode cX2_asLook 12 = .ok (.aload_n 0, 1) := by decide +kernel
theorem dX2_asLook_13 : decode cX2_asLook 13 = .ok (.iload_n 1, 1) := by decide +kernel
theorem dX2_asLook_14 : decode cX2_asLook 14 = .ok (.iload_n 2, 1) := by decide +kernel
theorem dX2_asLook_15 : decode cX2_asLook 15 = .ok (.invokevirtual 26, 3) := by decide +kernel
theorem dX2_asLook_18 : decode cX2_asLook 18 = .ok (.aload_n 0, 1) := by decide +kernel
theorem dX2_asLook_19 : decode cX2_asLook 19 = .ok (.getfield 15, 3) := by decide +kernel
theorem dX2_asLook_22 : decode cX2_asLook 22 = .ok (.aload_n 0, 1) := by decide +kernel
theorem dX2_asLook_23 : decode cX2_asLook 23 = .ok (.getfield 15, 3) := by decide +kernel
theorem dX2_asLook_26 : decode cX2_asLook 26 = .ok (.iload_n 2, 1) := by decide +kernel
theorem dX2_asLook_27 : decode cX2_asLook 27 = .ok (.invokevirtual 56, 3) := by decide +kernel
theorem dX2_asLook_30 : decode cX2_asLook 30 = .ok (.bipush 10, 2) := by decide +kernel
theorem dX2_asLook_32 : decode cX2_asLook 32 = .ok (.iload_n 1, 1) := by decide +kernel
theorem dX2_asLook_33 : decode cX2_asLook 33 = .ok (.iload_n 2, 1) := by decide +kernel
theorem dX2_asLook_34 : decode cX2_asLook 34 = .ok (.invokestatic 44, 3) := by decide +kernel
theorem dX2_asLook_37 : decode cX2_asLook 37 = .ok (.iadd, 1) := by decide +kernel
theorem dX2_asLook_38 : decode cX2_asLook 38 = .ok (.invokevirtual 60, 3) := by decide +kernel
theorem dX2_asLook_41 : decode cX2_asLook 41 = .ok (.iadd, 1) := by decide +kernel
theorem dX2_asLook_42 : decode cX2_asLook 42 = .ok (.ireturn, 1) := by decide +kernel
theorem dX2_asSave_0 : decode cX2_asSave 0 = .ok (.aload_n 0, 1) := by decide +kernel
theorem dX2_asSave_1 : decode cX2_asSave 1 = .ok (.dup, 1) := by decide +kernel
theorem dX2_asSave_2 : decode cX2_asSave 2 = .ok (.getfield 9, 3) := by decide +kernel
theorem dX2_asSave_5 : decode cX2_asSave 5 = .ok (.ldc2_w 63, 3) := by decide +kernel
theorem dX2_asSave_8 : decode cX2_asSave 8 = .ok (.ladd, 1) := by decide +kernel
theorem dX2_asSave_9 : decode cX2_asSave 9 = .ok (.putfield 9, 3) := by decide +kernel
theorem dX2_asSave_12 : decode cX2_asSave 12 = .ok (.aload_n 0, 1) := by decide +kernel
theorem dX2_asSave_13 : decode cX2_asSave 13 = .ok (.iload_n 1, 1) := by decide +kernel
theorem dX2_asSave_14 : decode cX2_asSave 14 = .ok (.iload_n 2, 1) := by decide +kernel
theorem dX2_asSave_15 : decode cX2_asSave 15 = .ok (.invokevirtual 19, 3) := by decide +kernel
theorem dX2_asSave_18 : decode cX2_asSave 18 = .ok (.iload_n 2, 1) := by decide +kernel
theorem dX2_asSave_19 : decode cX2_asSave 19 = .ok (.isub, 1) := by decide +kernel
theorem dX2_asSave_20 : decode cX2_asSave 20 = .ok (.ireturn, 1) := by decide +kernel
theorem dX2_asWorst_0 : decode cX2_asWorst 0 = .ok (.aload_n 0, 1) := by decide +kernel
theorem dX2_asWorst_1 : decode cX2_asWorst 1 = .ok (.dup, 1) := by decide +kernel
theorem dX2_asWorst_2 : decode cX2_asWorst 2 = .ok (.getfield 9, 3) := by decide +kernel
theorem dX2_asWorst_5 : decode cX2_asWorst 5 = .ok (.ldc2_w 65, 3) := by decide +kernel
theorem dX2_asWorst_8 : decode cX2_asWorst 8 = .ok (.ladd, 1) := by decide +kernel
theorem dX2_asWorst_9 : decode cX2_asWorst 9 = .ok (.putfield 9, 3) := by decide +kernel
theorem dX2_asWorst_12 : decode cX2_asWorst 12 = .ok (.iconst 3, 1) := by decide +kernel
theorem dX2_asWorst_13 : decode cX2_asWorst 13 = .ok (.aload_n 0, 1) := by decide +kernel
theorem dX2_asWorst_14 : decode cX2_asWorst 14 = .ok (.iload_n 1, 1) := by decide +kernel
theorem dX2_asWorst_15 : decode cX2_asWorst 15 = .ok (.iload_n 2, 1) := by decide +kernel
theorem dX2_asWorst_16 : decode cX2_asWorst 16 = .ok (.invokevirtual 23, 3) := by decide +kernel
theorem dX2_asWorst_19 : decode cX2_asWorst 19 = .ok (.imul, 1) := by decide +kernel
theorem dX2_asWorst_20 : decode cX2_asWorst 20 = .ok (.ireturn, 1) := by decide +kernel
theorem dX3_init_0 : decode cX3_init 0 = .ok (.aload_n 0, 1) := by decide +kernel
theorem dX3_init_1 : decode cX3_init 1 = .ok (.invokespecial 3, 3) := by decide +kernel
theorem dX3_init_4 : decode cX3_init 4 = .ok (.aload_n 0, 1) := by decide +kernel
theorem dX3_init_5 : decode cX3_init 5 = .ok (.iconst 0, 1) := by decide +kernel
theorem dX3_init_6 : decode cX3_init 6 = .ok (.putfield 9, 3) := by decide +kernel
theorem dX3_init_9 : decode cX3_init 9 = .ok (.aload_n 0, 1) := by decide +kernel
theorem dX3_init_10 : decode cX3_init 10 = .ok (.iconst 0, 1) := by decide +kernel
theorem dX3_init_11 : decode cX3_init 11 = .ok (.putfield 15, 3) := by decide +kernel
theorem dX3_init_14 : decode cX3_init 14 = .ok (.aload_n 0, 1) := by decide +kernel
theorem dX3_init_15 : decode cX3_init 15 = .ok (.iconst 0, 1) := by decide +kernel
theorem dX3_init_16 : decode cX3_init 16 = .ok (.putfield 18, 3) := by decide +kernel
theorem dX3_init_19 : decode cX3_init 19 = .ok (.aload_n 0, 1) := by decide +kernel
theorem dX3_init_20 : decode cX3_init 20 = .ok (.lconst 1, 1) := by decide +kernel
theorem dX3_init_21 : decode cX3_init 21 = .ok (.putfield 21, 3) := by decide +kernel
theorem dX3_init_24 : decode cX3_init 24 = .ok (.aload_n 0, 1) := by decide +kernel
theorem dX3_init_25 : decode cX3_init 25 = .ok (.iconst 0, 1) := by decide +kernel
theorem dX3_init_26 : decode cX3_init 26 = .ok (.newarray .long, 2) := by decide +kernel
theorem dX3_init_28 : decode cX3_init 28 = .ok (.putfield 25, 3) := by decide +kernel
theorem dX3_init_31 : decode cX3_init 31 = .ok (.aload_n 0, 1) := by decide +kernel
theorem dX3_init_32 : decode cX3_init 32 = .ok (.iconst 0, 1) := by decide +kernel
theorem dX3_init_33 : decode cX3_init 33 = .ok (.newarray .long, 2) := by decide +kernel
theorem dX3_init_35 : decode cX3_init 35 = .ok (.putfield 29, 3) := by decide +kernel
theorem dX3_init_38 : decode cX3_init 38 = .ok (.aload_n 0, 1) := by decide +kernel
theorem dX3_init_39 : decode cX3_init 39 = .ok (.iconst 0, 1) := by decide +kernel
theorem dX3_init_40 : decode cX3_init 40 = .ok (.newarray .long, 2) := by decide +kernel
theorem dX3_init_42 : decode cX3_init 42 = .ok (.putfield 32, 3) := by decide +kernel
theorem dX3_init_45 : decode cX3_init 45 = .ok (.aload_n 0, 1) := by decide +kernel
theorem dX3_init_46 : decode cX3_init 46 = .ok (.aload_n 1, 1) := by decide +kernel
theorem dX3_init_47 : decode cX3_init 47 = .ok (.putfield 35, 3) := by decide +kernel
theorem dX3_init_50 : decode cX3_init 50 = .ok (.return_, 1) := by decide +kernel
theorem dX3_forgetAll_0 : decode cX3_forgetAll 0 = .ok (.aload_n 0, 1) := by decide +kernel
theorem dX3_forgetAll_1 : decode cX3_forgetAll 1 = .ok (.dup, 1) := by decide +kernel
theorem dX3_forgetAll_2 : decode cX3_forgetAll 2 = .ok (.getfield 21, 3) := by decide +kernel
theorem dX3_forgetAll_5 : decode cX3_forgetAll 5 = .ok (.lconst 1, 1) := by decide +kernel
theorem dX3_forgetAll_6 : decode cX3_forgetAll 6 = .ok (.ladd, 1) := by decide +kernel
theorem dX3_forgetAll_7 : decode cX3_forgetAll 7 = .ok (.putfield 21, 3) := by decide +kernel
theorem dX3_forgetAll_10 : decode cX3_forgetAll 10 = .ok (.aload_n 0, 1) := by decide +kernel
theorem dX3_forgetAll_11 : decode cX3_forgetAll 11 = .ok (.iconst 4, 1) := by decide +kernel
theorem dX3_forgetAll_12 : decode cX3_forgetAll 12 = .ok (.aload_n 0, 1) := by decide +kernel
theorem dX3_forgetAll_13 : decode cX3_forgetAll 13 = .ok (.getfield 35, 3) := by decide +kernel
theorem dX3_forgetAll_16 : decode cX3_forgetAll 16 = .ok (.getfield 39, 3) := by decide +kernel
theorem dX3_forgetAll_19 : decode cX3_forgetAll 19 = .ok (.imul, 1) := by decide +kernel
theorem dX3_forgetAll_20 : decode cX3_forgetAll 20 = .ok (.putfield 18, 3) := by decide +kernel
theorem dX3_forgetAll_23 : decode cX3_forgetAll 23 = .ok (.return_, 1) := by decide +kernel
theorem dX3_lookBy_0 : decode cX3_lookBy 0 = .ok (.iload_n 1, 1) := by decide +kernel
theorem dX3_lookBy_1 : decode cX3_lookBy 1 = .ok (.aload_n 0, 1) := by decide +kernel
theorem dX3_lookBy_2 : decode cX3_lookBy 2 = .ok (.getfield 9, 3) := by decide +kernel
theorem dX3_lookBy_5 : decode cX3_lookBy 5 = .ok (.if_icmp .ne 11, 3) := by decide +kernel
theorem dX3_lookBy_8 : decode cX3_lookBy 8 = .ok (.iload_n 2, 1) := by decide +kernel
theorem dX3_lookBy_9 : decode cX3_lookBy 9 = .ok (.aload_n 0, 1) := by decide +kernel
theorem dX3_lookBy_10 : decode cX3_lookBy 10 = .ok (.getfield 15, 3) := by decide +kernel
theorem dX3_lookBy_13 : decode cX3_lookBy 13 = .ok (.if_icmp .eq 13, 3) := by decide +kernel
theorem dX3_lookBy_16 : decode cX3_lookBy 16 = .ok (.aload_n 0, 1) := by decide +kernel
theorem dX3_lookBy_17 : decode cX3_lookBy 17 = .ok (.dup, 1) := by decide +kernel
theorem dX3_lookBy_18 : decode cX3_lookBy 18 = .ok (.getfield 21, 3) := by decide +kernel
theorem dX3_lookBy_21 : decode cX3_lookBy 21 = .ok (.lconst 1, 1) := by decide +kernel
theorem dX3_lookBy_22 : decode cX3_lookBy 22 = .ok (.ladd, 1) := by decide +kernel
theorem dX3_lookBy_23 : decode cX3_lookBy 23 = .ok (.putfield 21, 3) := by decide +kernel
theorem dX3_lookBy_26 : decode cX3_lookBy 26 = .ok (.aload_n 0, 1) := by decide +kernel
theorem dX3_lookBy_27 : decode cX3_lookBy 27 = .ok (.iload_n 1, 1) := by decide +kernel
theorem dX3_lookBy_28 : decode cX3_lookBy 28 = .ok (.putfield 9, 3) := by decide +kernel
theorem dX3_lookBy_31 : decode cX3_lookBy 31 = .ok (.aload_n 0, 1) := by decide +kernel
theorem dX3_lookBy_32 : decode cX3_lookBy 32 = .ok (.iload_n 2, 1) := by decide +kernel
theorem dX3_lookBy_33 : decode cX3_lookBy 33 = .ok (.putfield 15, 3) := by decide +kernel
theorem dX3_lookBy_36 : decode cX3_lookBy 36 = .ok (.aload_n 0, 1) := by decide +kernel
theorem dX3_lookBy_37 : decode cX3_lookBy 37 = .ok (.getfield 35, 3) := by decide +kernel
theorem dX3_lookBy_40 : decode cX3_lookBy 40 = .ok (.getfield 39, 3) := by decide +kernel
theorem dX3_lookBy_43 : decode cX3_lookBy 43 = .ok (.ifCond .ne 7, 3) := by decide +kernel
theorem dX3_lookBy_46 : decode cX3_lookBy 46 = .ok (.iconst 0, 1) := by decide +kernel
theorem dX3_lookBy_47 : decode cX3_lookBy 47 = .ok (.goto 15, 3) := by decide +kernel
theorem dX3_lookBy_50 : decode cX3_lookBy 50 = .ok (.aload_n 0, 1) := by decide +kernel
theorem dX3_lookBy_51 : decode cX3_lookBy 51 = .ok (.getfield 35, 3) := by decide +kernel
theorem dX3_lookBy_54 : decode cX3_lookBy 54 = .ok (.getfield 44, 3) := by decide +kernel
theorem dX3_lookBy_57 : decode cX3_lookBy 57 = .ok (.aload_n 0, 1) := by decide +kernel
theorem dX3_lookBy_58 : decode cX3_lookBy 58 = .ok (.getfield 18, 3) := by decide +kernel
theorem dX3_lookBy_61 : decode cX3_lookBy 61 = .ok (.ishl, 1) := by decide +kernel
theorem dX3_lookBy_62 : decode cX3_lookBy 62 = .ok (.istore_n 3, 1) := by decide +kernel
theorem dX3_lookBy_63 : decode cX3_lookBy 63 = .ok (.iload_n 3, 1) := by decide +kernel
theorem dX3_lookBy_64 : decode cX3_lookBy 64 = .ok (.aload_n 0, 1) := by decide +kernel
theorem dX3_lookBy_65 : decode cX3_lookBy 65 = .ok (.getfield 25, 3) := by decide +kernel
theorem dX3_lookBy_68 : decode cX3_lookBy 68 = .ok (.arraylength, 1) := by decide +kernel
theorem dX3_lookBy_69 : decode cX3_lookBy 69 = .ok (.if_icmp .le 24, 3) := by decide +kernel
theorem dX3_lookBy_72 : decode cX3_lookBy 72 = .ok (.aload_n 0, 1) := by decide +kernel
theorem dX3_lookBy_73 : decode cX3_lookBy 73 = .ok (.iload_n 3, 1) := by decide +kernel
theorem dX3_lookBy_74 : decode cX3_lookBy 74 = .ok (.newarray .long, 2) := by decide +kernel
theorem dX3_lookBy_76 : decode cX3_lookBy 76 = .ok (.putfield 25, 3) := by decide +kernel
theorem dX3_lookBy_79 : decode cX3_lookBy 79 = .ok (.aload_n 0, 1) := by decide +kernel
theorem dX3_lookBy_80 : decode cX3_lookBy 80 = .ok (.iload_n 3, 1) := by decide +kernel
theorem dX3_lookBy_81 : decode cX3_lookBy 81 = .ok (.newarray .long, 2) := by decide +kernel
theorem dX3_lookBy_83 : decode cX3_lookBy 83 = .ok (.putfield 29, 3) := by decide +kernel
theorem dX3_lookBy_86 : decode cX3_lookBy 86 = .ok (.aload_n 0, 1) := by decide +kernel
theorem dX3_lookBy_87 : decode cX3_lookBy 87 = .ok (.iload_n 3, 1) := by decide +kernel
theorem dX3_lookBy_88 : decode cX3_lookBy 88 = .ok (.newarray .long, 2) := by decide +kernel
theorem dX3_lookBy_90 : decode cX3_lookBy 90 = .ok (.putfield 32, 3) := by decide +kernel
theorem dX3_lookBy_93 : decode cX3_lookBy 93 = .ok (.return_, 1) := by decide +kernel
theorem dX3_stamped_0 : decode cX3_stamped 0 = .ok (.aload_n 0, 1) := by decide +kernel
theorem dX3_stamped_1 : decode cX3_stamped 1 = .ok (.getfield 21, 3) := by decide +kernel
theorem dX3_stamped_4 : decode cX3_stamped 4 = .ok (.bipush 32, 2) := by decide +kernel
theorem dX3_stamped_6 : decode cX3_stamped 6 = .ok (.lshl, 1) := by decide +kernel
theorem dX3_stamped_7 : decode cX3_stamped 7 = .ok (.iload_n 1, 1) := by decide +kernel
theorem dX3_stamped_8 : decode cX3_stamped 8 = .ok (.i2l, 1) := by decide +kernel
theorem dX3_stamped_9 : decode cX3_stamped 9 = .ok (.lor, 1) := by decide +kernel
theorem dX3_stamped_10 : decode cX3_stamped 10 = .ok (.lreturn, 1) := by decide +kernel
theorem dX3_isVoid_0 : decode cX3_isVoid 0 = .ok (.lload_n 1, 1) := by decide +kernel
theorem dX3_isVoid_1 : decode cX3_isVoid 1 = .ok (.bipush 32, 2) := by decide +kernel
theorem dX3_isVoid_3 : decode cX3_isVoid 3 = .ok (.lshr, 1) := by decide +kernel
theorem dX3_isVoid_4 : decode cX3_isVoid 4 = .ok (.aload_n 0, 1) := by decide +kernel
theorem dX3_isVoid_5 : decode cX3_isVoid 5 = .ok (.getfield 21, 3) := by decide +kernel
theorem dX3_isVoid_8 : decode cX3_isVoid 8 = .ok (.lcmp, 1) := by decide +kernel
theorem dX3_isVoid_9 : decode cX3_isVoid 9 = .ok (.ifCond .eq 7, 3) := by decide +kernel
theorem dX3_isVoid_12 : decode cX3_isVoid 12 = .ok (.iconst 1, 1) := by decide +kernel
theorem dX3_isVoid_13 : decode cX3_isVoid 13 = .ok (.goto 4, 3) := by decide +kernel
theorem dX3_isVoid_16 : decode cX3_isVoid 16 = .ok (.iconst 0, 1) := by decide +kernel
theorem dX3_isVoid_17 : decode cX3_isVoid 17 = .ok (.ireturn, 1) := by decide +kernel
theorem dX3_valueAhead_0 : decode cX3_valueAhead 0 = .ok (.aload_n 0, 1) := by decide +kernel
theorem dX3_valueAhead_1 : decode cX3_valueAhead 1 = .ok (.iload_n 1, 1) := by decide +kernel
theorem dX3_valueAhead_2 : decode cX3_valueAhead 2 = .ok (.iload_n 2, 1) := by decide +kernel
theorem dX3_valueAhead_3 : decode cX3_valueAhead 3 = .ok (.invokevirtual 47, 3) := by decide +kernel
theorem dX3_valueAhead_6 : decode cX3_valueAhead 6 = .ok (.iconst 3, 1) := by decide +kernel
theorem dX3_valueAhead_7 : decode cX3_valueAhead 7 = .ok (.ishr, 1) := by decide +kernel
theorem dX3_valueAhead_8 : decode cX3_valueAhead 8 = .ok (.ireturn, 1) := by decide +kernel
theorem dX3_leftAhead_0 : decode cX3_leftAhead 0 = .ok (.iload_n 1, 1) := by decide +kernel
theorem dX3_leftAhead_1 : decode cX3_leftAhead 1 = .ok (.aload_n 0, 1) := by decide +kernel
theorem dX3_leftAhead_2 : decode cX3_leftAhead 2 = .ok (.getfield 35, 3) := by decide +kernel
theorem dX3_leftAhead_5 : decode cX3_leftAhead 5 = .ok (.getfield 44, 3) := by decide +kernel
theorem dX3_leftAhead_8 : decode cX3_leftAhead 8 = .ok (.if_icmp .lt 12, 3) := by decide +kernel
theorem dX3_leftAhead_11 : decode cX3_leftAhead 11 = .ok (.sipush 1000, 3) := by decide +kernel
theorem dX3_leftAhead_14 : decode cX3_leftAhead 14 = .ok (.iload_n 2, 1) := by decide +kernel
theorem dX3_leftAhead_15 : decode cX3_leftAhead 15 = .ok (.invokestatic 51, 3) := by decide +kernel
theorem dX3_leftAhead_18 : decode cX3_leftAhead 18 = .ok (.imul, 1) := by decide +kernel
theorem dX3_leftAhead_19 : decode cX3_leftAhead 19 = .ok (.ireturn, 1) := by decide +kernel
theorem dX3_leftAhead_20 : decode cX3_leftAhead 20 = .ok (.aload_n 0, 1) := by decide +kernel
theorem dX3_leftAhead_21 : decode cX3_leftAhead 21 = .ok (.iload_n 1, 1) := by decide +kernel
theorem dX3_leftAhead_22 : decode cX3_leftAhead 22 = .ok (.aload_n 0, 1) := by decide +kernel
theorem dX3_leftAhead_23 : decode cX3_leftAhead 23 = .ok (.iload_n 2, 1) := by decide +kernel
theorem dX3_leftAhead_24 : decode cX3_leftAhead 24 = .ok (.aload_n 0, 1) := by decide +kernel
theorem dX3_leftAhead_25 : decode cX3_leftAhead 25 = .ok (.iload_n 1, 1) := by decide +kernel
theorem dX3_leftAhead_26 : decode cX3_leftAhead 26 = .ok (.iload_n 2, 1) := by decide +kernel
theorem dX3_leftAhead_27 : decode cX3_leftAhead 27 = .ok (.invokevirtual 55, 3) := by decide +kernel
theorem dX3_leftAhead_30 : decode cX3_leftAhead 30 = .ok (.invokevirtual 58, 3) := by decide +kernel
theorem dX3_leftAhead_33 : decode cX3_leftAhead 33 = .ok (.invokevirtual 61, 3) := by decide +kernel
theorem dX3_leftAhead_36 : decode cX3_leftAhead 36 = .ok (.ireturn, 1) := by decide +kernel
theorem dX3_choiceAt_0 : decode cX3_choiceAt 0 = .ok (.aload_n 0, 1) := by decide +kernel
theorem dX3_choiceAt_1 : decode cX3_choiceAt 1 = .ok (.iload_n 1, 1) := by decide +kernel
theorem dX3_choiceAt_2 : decode cX3_choiceAt 2 = .ok (.iload_n 2, 1) := by decide +kernel
theorem dX3_choiceAt_3 : decode cX3_choiceAt 3 = .ok (.invokevirtual 47, 3) := by decide +kernel
theorem dX3_choiceAt_6 : decode cX3_choiceAt 6 = .ok (.bipush 7, 2) := by decide +kernel
theorem dX3_choiceAt_8 : decode cX3_choiceAt 8 = .ok (.iand, 1) := by decide +kernel
theorem dX3_choiceAt_9 : decode cX3_choiceAt 9 = .ok (.ireturn, 1) := by decide +kernel
theorem dX3_valueBehind_0 : decode cX3_valueBehind 0 = .ok (.aload_n 0, 1) := by decide +kernel
theorem dX3_valueBehind_1 : decode cX3_valueBehind 1 = .ok (.iload_n 1, 1) := by decide +kernel
theorem dX3_valueBehind_2 : decode cX3_valueBehind 2 = .ok (.iload_n 2, 1) := by decide +kernel
theorem dX3_valueBehind_3 : decode cX3_valueBehind 3 = .ok (.invokevirtual 64, 3) := by decide +kernel
theorem dX3_valueBehind_6 : decode cX3_valueBehind 6 = .ok (.istore_n 3, 1) := by decide +kernel
theorem dX3_valueBehind_7 : decode cX3_valueBehind 7 = .ok (.iload_n 3, 1) := by decide +kernel
theorem dX3_valueBehind_8 : decode cX3_valueBehind 8 = .ok (.ifCond .ge 5, 3) := by decide +kernel
theorem dX3_valueBehind_11 : decode cX3_valueBehind 11 = .ok (.iconst 0, 1) := by decide +kernel
theorem dX3_valueBehind_12 : decode cX3_valueBehind 12 = .ok (.ireturn, 1) := by decide +kernel
theorem dX3_valueBehind_13 : decode cX3_valueBehind 13 = .ok (.aload_n 0, 1) := by decide +kernel
theorem dX3_valueBehind_14 : decode cX3_valueBehind 14 = .ok (.aload_n 0, 1) := by decide +kernel
theorem dX3_valueBehind_15 : decode cX3_valueBehind 15 = .ok (.getfield 29, 3) := by decide +kernel
theorem dX3_valueBehind_18 : decode cX3_valueBehind 18 = .ok (.iload_n 3, 1) := by decide +kernel
theorem dX3_valueBehind_19 : decode cX3_valueBehind 19 = .ok (.laload, 1) := by decide +kernel
theorem dX3_valueBehind_20 : decode cX3_valueBehind 20 = .ok (.invokevirtual 67, 3) := by decide +kernel
theorem dX3_valueBehind_23 : decode cX3_valueBehind 23 = .ok (.ifCond .eq 20, 3) := by decide +kernel
theorem dX3_valueBehind_26 : decode cX3_valueBehind 26 = .ok (.aload_n 0, 1) := by decide +kernel
theorem dX3_valueBehind_27 : decode cX3_valueBehind 27 = .ok (.getfield 29, 3) := by decide +kernel
theorem dX3_valueBehind_30 : decode cX3_valueBehind 30 = .ok (.iload_n 3, 1) := by decide +kernel
theorem dX3_valueBehind_31 : decode cX3_valueBehind 31 = .ok (.aload_n 0, 1) := by decide +kernel
theorem dX3_valueBehind_32 : decode cX3_valueBehind 32 = .ok (.aload_n 0, 1) := by decide +kernel
theorem dX3_valueBehind_33 : decode cX3_valueBehind 33 = .ok (.iload_n 1, 1) := by decide +kernel
theorem dX3_valueBehind_34 : decode cX3_valueBehind 34 = .ok (.iload_n 2, 1) := by decide +kernel
theorem dX3_valueBehind_35 : decode cX3_valueBehind 35 = .ok (.iconst 0, 1) := by decide +kernel
theorem dX3_valueBehind_36 : decode cX3_valueBehind 36 = .ok (.invokevirtual 71, 3) := by decide +kernel
theorem dX3_valueBehind_39 : decode cX3_valueBehind 39 = .ok (.invokevirtual 75, 3) := by decide +kernel
theorem dX3_valueBehind_42 : decode cX3_valueBehind 42 = .ok (.lastore, 1) := by decide +kernel
theorem dX3_valueBehind_43 : decode cX3_valueBehind 43 = .ok (.aload_n 0, 1) := by decide +kernel
theorem dX3_valueBehind_44 : decode cX3_valueBehind 44 = .ok (.getfield 29, 3) := by decide +kernel
theorem dX3_valueBehind_47 : decode cX3_valueBehind 47 = .ok (.iload_n 3, 1) := by decide +kernel
theorem dX3_valueBehind_48 : decode cX3_valueBehind 48 = .ok (.laload, 1) := by decide +kernel
theorem dX3_valueBehind_49 : decode cX3_valueBehind 49 = .ok (.l2i, 1) := by decide +kernel
theorem dX3_valueBehind_50 : decode cX3_valueBehind 50 = .ok (.ireturn, 1) := by decide +kernel
theorem dX3_leftBehind_0 : decode cX3_leftBehind 0 = .ok (.aload_n 0, 1) := by decide +kernel
theorem dX3_leftBehind_1 : decode cX3_leftBehind 1 = .ok (.iload_n 1, 1) := by decide +kernel
theorem dX3_leftBehind_2 : decode cX3_leftBehind 2 = .ok (.iload_n 2, 1) := by decide +kernel
theorem dX3_leftBehind_3 : decode cX3_leftBehind 3 = .ok (.invokevirtual 64, 3) := by decide +kernel
theorem dX3_leftBehind_6 : decode cX3_leftBehind 6 = .ok (.istore_n 3, 1) := by decide +kernel
theorem dX3_leftBehind_7 : decode cX3_leftBehind 7 = .ok (.iload_n 3, 1) := by decide +kernel
theorem dX3_leftBehind_8 : decode cX3_leftBehind 8 = .ok (.ifCond .ge 5, 3) := by decide +kernel
theorem dX3_leftBehind_11 : decode cX3_leftBehind 11 = .ok (.iconst 0, 1) := by decide +kernel
theorem dX3_leftBehind_12 : decode cX3_leftBehind 12 = .ok (.ireturn, 1) := by decide +kernel
theorem dX3_leftBehind_13 : decode cX3_leftBehind 13 = .ok (.aload_n 0, 1) := by decide +kernel
theorem dX3_leftBehind_14 : decode cX3_leftBehind 14 = .ok (.aload_n 0, 1) := by decide +kernel
theorem dX3_leftBehind_15 : decode cX3_leftBehind 15 = .ok (.getfield 32, 3) := by decide +kernel
theorem dX3_leftBehind_18 : decode cX3_leftBehind 18 = .ok (.iload_n 3, 1) := by decide +kernel
theorem dX3_leftBehind_19 : decode cX3_leftBehind 19 = .ok (.laload, 1) := by decide +kernel
theorem dX3_leftBehind_20 : decode cX3_leftBehind 20 = .ok (.invokevirtual 67, 3) := by decide +kernel
theorem dX3_leftBehind_23 : decode cX3_leftBehind 23 = .ok (.ifCond .eq 20, 3) := by decide +kernel
theorem dX3_leftBehind_26 : decode cX3_leftBehind 26 = .ok (.aload_n 0, 1) := by decide +kernel
theorem dX3_leftBehind_27 : decode cX3_leftBehind 27 = .ok (.getfield 32, 3) := by decide +kernel
theorem dX3_leftBehind_30 : decode cX3_leftBehind 30 = .ok (.iload_n 3, 1) := by decide +kernel
theorem dX3_leftBehind_31 : decode cX3_leftBehind 31 = .ok (.aload_n 0, 1) := by decide +kernel
theorem dX3_leftBehind_32 : decode cX3_leftBehind 32 = .ok (.aload_n 0, 1) := by decide +kernel
theorem dX3_leftBehind_33 : decode cX3_leftBehind 33 = .ok (.iload_n 1, 1) := by decide +kernel
theorem dX3_leftBehind_34 : decode cX3_leftBehind 34 = .ok (.iload_n 2, 1) := by decide +kernel
theorem dX3_leftBehind_35 : decode cX3_leftBehind 35 = .ok (.iconst 1, 1) := by decide +kernel
theorem dX3_leftBehind_36 : decode cX3_leftBehind 36 = .ok (.invokevirtual 71, 3) := by decide +kernel
theorem dX3_leftBehind_39 : decode cX3_leftBehind 39 = .ok (.invokevirtual 75, 3) := by decide +kernel
theorem dX3_leftBehind_42 : decode cX3_leftBehind 42 = .ok (.lastore, 1) := by decide +kernel
theorem dX3_leftBehind_43 : decode cX3_leftBehind 43 = .ok (.aload_n 0, 1) := by decide +kernel
theorem dX3_leftBehind_44 : decode cX3_leftBehind 44 = .ok (.getfield 32, 3) := by decide +kernel
theorem dX3_leftBehind_47 : decode cX3_leftBehind 47 = .ok (.iload_n 3, 1) := by decide +kernel
theorem dX3_leftBehind_48 : decode cX3_leftBehind 48 = .ok (.laload, 1) := by decide +kernel
theorem dX3_leftBehind_49 : decode cX3_leftBehind 49 = .ok (.l2i, 1) := by decide +kernel
theorem dX3_leftBehind_50 : decode cX3_leftBehind 50 = .ok (.ireturn, 1) := by decide +kernel
theorem dX3_broughtBy_0 : decode cX3_broughtBy 0 = .ok (.aload_n 0, 1) := by decide +kernel
theorem dX3_broughtBy_1 : decode cX3_broughtBy 1 = .ok (.getfield 35, 3) := by decide +kernel
theorem dX3_broughtBy_4 : decode cX3_broughtBy 4 = .ok (.iload_n 2, 1) := by decide +kernel
theorem dX3_broughtBy_5 : decode cX3_broughtBy 5 = .ok (.iload_n 3, 1) := by decide +kernel
theorem dX3_broughtBy_6 : decode cX3_broughtBy 6 = .ok (.iload_n 1, 1) := by decide +kernel
theorem dX3_broughtBy_7 : decode cX3_broughtBy 7 = .ok (.invokevirtual 79, 3) := by decide +kernel
theorem dX3_broughtBy_10 : decode cX3_broughtBy 10 = .ok (.istore 4, 2) := by decide +kernel
theorem dX3_broughtBy_12 : decode cX3_broughtBy 12 = .ok (.sipush 1000, 3) := by decide +kernel
theorem dX3_broughtBy_15 : decode cX3_broughtBy 15 = .ok (.iload 4, 2) := by decide +kernel
theorem dX3_broughtBy_17 : decode cX3_broughtBy 17 = .ok (.imul, 1) := by decide +kernel
theorem dX3_broughtBy_18 : decode cX3_broughtBy 18 = .ok (.aload_n 0, 1) := by decide +kernel
theorem dX3_broughtBy_19 : decode cX3_broughtBy 19 = .ok (.iload_n 1, 1) := by decide +kernel
theorem dX3_broughtBy_20 : decode cX3_broughtBy 20 = .ok (.aload_n 0, 1) := by decide +kernel
theorem dX3_broughtBy_21 : decode cX3_broughtBy 21 = .ok (.iload_n 2, 1) := by decide +kernel
theorem dX3_broughtBy_22 : decode cX3_broughtBy 22 = .ok (.iload_n 3, 1) := by decide +kernel
theorem dX3_broughtBy_23 : decode cX3_broughtBy 23 = .ok (.invokevirtual 58, 3) := by decide +kernel
theorem dX3_broughtBy_26 : decode cX3_broughtBy 26 = .ok (.invokevirtual 83, 3) := by decide +kernel
theorem dX3_broughtBy_29 : decode cX3_broughtBy 29 = .ok (.iadd, 1) := by decide +kernel
theorem dX3_broughtBy_30 : decode cX3_broughtBy 30 = .ok (.ireturn, 1) := by decide +kernel
theorem dX3_placeOf_0 : decode cX3_placeOf 0 = .ok (.iload_n 1, 1) := by decide +kernel
theorem dX3_placeOf_1 : decode cX3_placeOf 1 = .ok (.ifCond .lt 18, 3) := by decide +kernel
theorem dX3_placeOf_4 : decode cX3_placeOf 4 = .ok (.iload_n 1, 1) := by decide +kernel
theorem dX3_placeOf_5 : decode cX3_placeOf 5 = .ok (.aload_n 0, 1) := by decide +kernel
theorem dX3_placeOf_6 : decode cX3_placeOf 6 = .ok (.getfield 35, 3) := by decide +kernel
theorem dX3_placeOf_9 : decode cX3_placeOf 9 = .ok (.getfield 44, 3) := by decide +kernel
theorem dX3_placeOf_12 : decode cX3_placeOf 12 = .ok (.if_icmp .ge 7, 3) := by decide +kernel
theorem dX3_placeOf_15 : decode cX3_placeOf 15 = .ok (.iload_n 2, 1) := by decide +kernel
theorem dX3_placeOf_16 : decode cX3_placeOf 16 = .ok (.ifCond .gt 5, 3) := by decide +kernel
theorem dX3_placeOf_19 : decode cX3_placeOf 19 = .ok (.iconst (-1), 1) := by decide +kernel
theorem dX3_placeOf_20 : decode cX3_placeOf 20 = .ok (.ireturn, 1) := by decide +kernel
theorem dX3_placeOf_21 : decode cX3_placeOf 21 = .ok (.iload_n 1, 1) := by decide +kernel
theorem dX3_placeOf_22 : decode cX3_placeOf 22 = .ok (.aload_n 0, 1) := by decide +kernel
theorem dX3_placeOf_23 : decode cX3_placeOf 23 = .ok (.getfield 18, 3) := by decide +kernel
theorem dX3_placeOf_26 : decode cX3_placeOf 26 = .ok (.ishl, 1) := by decide +kernel
theorem dX3_placeOf_27 : decode cX3_placeOf 27 = .ok (.iload_n 2, 1) := by decide +kernel
theorem dX3_placeOf_28 : decode cX3_placeOf 28 = .ok (.iadd, 1) := by decide +kernel
theorem dX3_placeOf_29 : decode cX3_placeOf 29 = .ok (.istore_n 3, 1) := by decide +kernel
theorem dX3_placeOf_30 : decode cX3_placeOf 30 = .ok (.iload_n 3, 1) := by decide +kernel
theorem dX3_placeOf_31 : decode cX3_placeOf 31 = .ok (.ifCond .lt 16, 3) := by decide +kernel
theorem dX3_placeOf_34 : decode cX3_placeOf 34 = .ok (.iload_n 3, 1) := by decide +kernel
theorem dX3_placeOf_35 : decode cX3_placeOf 35 = .ok (.aload_n 0, 1) := by decide +kernel
theorem dX3_placeOf_36 : decode cX3_placeOf 36 = .ok (.getfield 25, 3) := by decide +kernel
theorem dX3_placeOf_39 : decode cX3_placeOf 39 = .ok (.arraylength, 1) := by decide +kernel
theorem dX3_placeOf_40 : decode cX3_placeOf 40 = .ok (.if_icmp .ge 7, 3) := by decide +kernel
theorem dX3_placeOf_43 : decode cX3_placeOf 43 = .ok (.iload_n 3, 1) := by decide +kernel
theorem dX3_placeOf_44 : decode cX3_placeOf 44 = .ok (.goto 4, 3) := by decide +kernel
theorem dX3_placeOf_47 : decode cX3_placeOf 47 = .ok (.iconst (-1), 1) := by decide +kernel
theorem dX3_placeOf_48 : decode cX3_placeOf 48 = .ok (.ireturn, 1) := by decide +kernel
theorem dX3_standBehind_0 : decode cX3_standBehind 0 = .ok (.iload_n 2, 1) := by decide +kernel
theorem dX3_standBehind_1 : decode cX3_standBehind 1 = .ok (.bipush 6, 2) := by decide +kernel
theorem dX3_standBehind_3 : decode cX3_standBehind 3 = .ok (.if_icmp .ne 5, 3) := by decide +kernel
theorem dX3_standBehind_6 : decode cX3_standBehind 6 = .ok (.iload_n 1, 1) := by decide +kernel
theorem dX3_standBehind_7 : decode cX3_standBehind 7 = .ok (.ireturn, 1) := by decide +kernel
theorem dX3_standBehind_8 : decode cX3_standBehind 8 = .ok (.iload_n 2, 1) := by decide +kernel
theorem dX3_standBehind_9 : decode cX3_standBehind 9 = .ok (.iconst 3, 1) := by decide +kernel
theorem dX3_standBehind_10 : decode cX3_standBehind 10 = .ok (.if_icmp .lt 11, 3) := by decide +kernel
theorem dX3_standBehind_13 : decode cX3_standBehind 13 = .ok (.iload_n 1, 1) := by decide +kernel
theorem dX3_standBehind_14 : decode cX3_standBehind 14 = .ok (.iload_n 2, 1) := by decide +kernel
theorem dX3_standBehind_15 : decode cX3_standBehind 15 = .ok (.iconst 3, 1) := by decide +kernel
theorem dX3_standBehind_16 : decode cX3_standBehind 16 = .ok (.isub, 1) := by decide +kernel
theorem dX3_standBehind_17 : decode cX3_standBehind 17 = .ok (.invokestatic 86, 3) := by decide +kernel
theorem dX3_standBehind_20 : decode cX3_standBehind 20 = .ok (.ireturn, 1) := by decide +kernel
theorem dX3_standBehind_21 : decode cX3_standBehind 21 = .ok (.iload_n 1, 1) := by decide +kernel
theorem dX3_standBehind_22 : decode cX3_standBehind 22 = .ok (.iload_n 2, 1) := by decide +kernel
theorem dX3_standBehind_23 : decode cX3_standBehind 23 = .ok (.invokestatic 89, 3) := by decide +kernel
theorem dX3_standBehind_26 : decode cX3_standBehind 26 = .ok (.iconst 1, 1) := by decide +kernel
theorem dX3_standBehind_27 : decode cX3_standBehind 27 = .ok (.if_icmp .ne 11, 3) := by decide +kernel
theorem dX3_standBehind_30 : decode cX3_standBehind 30 = .ok (.iload_n 1, 1) := by decide +kernel
theorem dX3_standBehind_31 : decode cX3_standBehind 31 = .ok (.iload_n 2, 1) := by decide +kernel
theorem dX3_standBehind_32 : decode cX3_standBehind 32 = .ok (.invokestatic 86, 3) := by decide +kernel
theorem dX3_standBehind_35 : decode cX3_standBehind 35 = .ok (.goto 12, 3) := by decide +kernel
theorem dX3_standBehind_38 : decode cX3_standBehind 38 = .ok (.aload_n 0, 1) := by decide +kernel
theorem dX3_standBehind_39 : decode cX3_standBehind 39 = .ok (.getfield 35, 3) := by decide +kernel
theorem dX3_standBehind_42 : decode cX3_standBehind 42 = .ok (.iload_n 1, 1) := by decide +kernel
theorem dX3_standBehind_43 : decode cX3_standBehind 43 = .ok (.iload_n 2, 1) := by decide +kernel
theorem dX3_standBehind_44 : decode cX3_standBehind 44 = .ok (.invokevirtual 92, 3) := by decide +kernel
theorem dX3_standBehind_47 : decode cX3_standBehind 47 = .ok (.ireturn, 1) := by decide +kernel
theorem dX3_planAt_0 : decode cX3_planAt 0 = .ok (.aload_n 0, 1) := by decide +kernel
theorem dX3_planAt_1 : decode cX3_planAt 1 = .ok (.iload_n 1, 1) := by decide +kernel
theorem dX3_planAt_2 : decode cX3_planAt 2 = .ok (.iload_n 2, 1) := by decide +kernel
theorem dX3_planAt_3 : decode cX3_planAt 3 = .ok (.invokevirtual 64, 3) := by decide +kernel
theorem dX3_planAt_6 : decode cX3_planAt 6 = .ok (.istore_n 3, 1) := by decide +kernel
theorem dX3_planAt_7 : decode cX3_planAt 7 = .ok (.iload_n 3, 1) := by decide +kernel
theorem dX3_planAt_8 : decode cX3_planAt 8 = .ok (.ifCond .ge 6, 3) := by decide +kernel
theorem dX3_planAt_11 : decode cX3_planAt 11 = .ok (.bipush 6, 2) := by decide +kernel
theorem dX3_planAt_13 : decode cX3_planAt 13 = .ok (.ireturn, 1) := by decide +kernel
theorem dX3_planAt_14 : decode cX3_planAt 14 = .ok (.aload_n 0, 1) := by decide +kernel
theorem dX3_planAt_15 : decode cX3_planAt 15 = .ok (.aload_n 0, 1) := by decide +kernel
theorem dX3_planAt_16 : decode cX3_planAt 16 = .ok (.getfield 25, 3) := by decide +kernel
theorem dX3_planAt_19 : decode cX3_planAt 19 = .ok (.iload_n 3, 1) := by decide +kernel
theorem dX3_planAt_20 : decode cX3_planAt 20 = .ok (.laload, 1) := by decide +kernel
theorem dX3_planAt_21 : decode cX3_planAt 21 = .ok (.invokevirtual 67, 3) := by decide +kernel
theorem dX3_planAt_24 : decode cX3_planAt 24 = .ok (.ifCond .eq 36, 3) := by decide +kernel
theorem dX3_planAt_27 : decode cX3_planAt 27 = .ok (.aload_n 0, 1) := by decide +kernel
theorem dX3_planAt_28 : decode cX3_planAt 28 = .ok (.getfield 25, 3) := by decide +kernel
theorem dX3_planAt_31 : decode cX3_planAt 31 = .ok (.iload_n 3, 1) := by decide +kernel
theorem dX3_planAt_32 : decode cX3_planAt 32 = .ok (.aload_n 0, 1) := by decide +kernel
theorem dX3_planAt_33 : decode cX3_planAt 33 = .ok (.aload_n 0, 1) := by decide +kernel
theorem dX3_planAt_34 : decode cX3_planAt 34 = .ok (.getfield 9, 3) := by decide +kernel
theorem dX3_planAt_37 : decode cX3_planAt 37 = .ok (.iconst 4, 1) := by decide +kernel
theorem dX3_planAt_38 : decode cX3_planAt 38 = .ok (.if_icmp .ne 12, 3) := by decide +kernel
theorem dX3_planAt_41 : decode cX3_planAt 41 = .ok (.aload_n 0, 1) := by decide +kernel
theorem dX3_planAt_42 : decode cX3_planAt 42 = .ok (.iload_n 1, 1) := by decide +kernel
theorem dX3_planAt_43 : decode cX3_planAt 43 = .ok (.iload_n 2, 1) := by decide +kernel
theorem dX3_planAt_44 : decode cX3_planAt 44 = .ok (.invokevirtual 95, 3) := by decide +kernel
theorem dX3_planAt_47 : decode cX3_planAt 47 = .ok (.goto 9, 3) := by decide +kernel
theorem dX3_planAt_50 : decode cX3_planAt 50 = .ok (.aload_n 0, 1) := by decide +kernel
theorem dX3_planAt_51 : decode cX3_planAt 51 = .ok (.iload_n 1, 1) := by decide +kernel
theorem dX3_planAt_52 : decode cX3_planAt 52 = .ok (.iload_n 2, 1) := by decide +kernel
theorem dX3_planAt_53 : decode cX3_planAt 53 = .ok (.invokevirtual 98, 3) := by decide +kernel
theorem dX3_planAt_56 : decode cX3_planAt 56 = .ok (.invokevirtual 75, 3) := by decide +kernel
theorem dX3_planAt_59 : decode cX3_planAt 59 = .ok (.lastore, 1) := by decide +kernel
theorem dX3_planAt_60 : decode cX3_planAt 60 = .ok (.aload_n 0, 1) := by decide +kernel
theorem dX3_planAt_61 : decode cX3_planAt 61 = .ok (.getfield 25, 3) := by decide +kernel
theorem dX3_planAt_64 : decode cX3_planAt 64 = .ok (.iload_n 3, 1) := by decide +kernel
theorem dX3_planAt_65 : decode cX3_planAt 65 = .ok (.laload, 1) := by decide +kernel
theorem dX3_planAt_66 : decode cX3_planAt 66 = .ok (.l2i, 1) := by decide +kernel
theorem dX3_planAt_67 : decode cX3_planAt 67 = .ok (.ireturn, 1) := by decide +kernel
theorem dX3_bestPlan_0 : decode cX3_bestPlan 0 = .ok (.bipush 6, 2) := by decide +kernel
theorem dX3_bestPlan_2 : decode cX3_bestPlan 2 = .ok (.istore_n 3, 1) := by decide +kernel
theorem dX3_bestPlan_3 : decode cX3_bestPlan 3 = .ok (.iconst (-1), 1) := by decide +kernel
theorem dX3_bestPlan_4 : decode cX3_bestPlan 4 = .ok (.istore 4, 2) := by decide +kernel
theorem dX3_bestPlan_6 : decode cX3_bestPlan 6 = .ok (.iconst 0, 1) := by decide +kernel
theorem dX3_bestPlan_7 : decode cX3_bestPlan 7 = .ok (.istore 5, 2) := by decide +kernel
theorem dX3_bestPlan_9 : decode cX3_bestPlan 9 = .ok (.iload 5, 2) := by decide +kernel
theorem dX3_bestPlan_11 : decode cX3_bestPlan 11 = .ok (.bipush 6, 2) := by decide +kernel
theorem dX3_bestPlan_13 : decode cX3_bestPlan 13 = .ok (.if_icmp .gt 46, 3) := by decide +kernel
theorem dX3_bestPlan_16 : decode cX3_bestPlan 16 = .ok (.aload_n 0, 1) := by decide +kernel
theorem dX3_bestPlan_17 : decode cX3_bestPlan 17 = .ok (.getfield 35, 3) := by decide +kernel
theorem dX3_bestPlan_20 : decode cX3_bestPlan 20 = .ok (.iload_n 2, 1) := by decide +kernel
theorem dX3_bestPlan_21 : decode cX3_bestPlan 21 = .ok (.iload 5, 2) := by decide +kernel
theorem dX3_bestPlan_23 : decode cX3_bestPlan 23 = .ok (.invokevirtual 101, 3) := by decide +kernel
theorem dX3_bestPlan_26 : decode cX3_bestPlan 26 = .ok (.ifCond .eq 27, 3) := by decide +kernel
theorem dX3_bestPlan_29 : decode cX3_bestPlan 29 = .ok (.aload_n 0, 1) := by decide +kernel
theorem dX3_bestPlan_30 : decode cX3_bestPlan 30 = .ok (.iload_n 1, 1) := by decide +kernel
theorem dX3_bestPlan_31 : decode cX3_bestPlan 31 = .ok (.iload_n 2, 1) := by decide +kernel
theorem dX3_bestPlan_32 : decode cX3_bestPlan 32 = .ok (.iload 5, 2) := by decide +kernel
theorem dX3_bestPlan_34 : decode cX3_bestPlan 34 = .ok (.invokevirtual 105, 3) := by decide +kernel
theorem dX3_bestPlan_37 : decode cX3_bestPlan 37 = .ok (.istore 6, 2) := by decide +kernel
theorem dX3_bestPlan_39 : decode cX3_bestPlan 39 = .ok (.iload 6, 2) := by decide +kernel
theorem dX3_bestPlan_41 : decode cX3_bestPlan 41 = .ok (.iload 4, 2) := by decide +kernel
theorem dX3_bestPlan_43 : decode cX3_bestPlan 43 = .ok (.if_icmp .le 10, 3) := by decide +kernel
theorem dX3_bestPlan_46 : decode cX3_bestPlan 46 = .ok (.iload 6, 2) := by decide +kernel
theorem dX3_bestPlan_48 : decode cX3_bestPlan 48 = .ok (.istore 4, 2) := by decide +kernel
theorem dX3_bestPlan_50 : decode cX3_bestPlan 50 = .ok (.iload 5, 2) := by decide +kernel
theorem dX3_bestPlan_52 : decode cX3_bestPlan 52 = .ok (.istore_n 3, 1) := by decide +kernel
theorem dX3_bestPlan_53 : decode cX3_bestPlan 53 = .ok (.iinc 5 1, 3) := by decide +kernel
theorem dX3_bestPlan_56 : decode cX3_bestPlan 56 = .ok (.goto (-47), 3) := by decide +kernel
theorem dX3_bestPlan_59 : decode cX3_bestPlan 59 = .ok (.iload 4, 2) := by decide +kernel
theorem dX3_bestPlan_61 : decode cX3_bestPlan 61 = .ok (.iconst 3, 1) := by decide +kernel
theorem dX3_bestPlan_62 : decode cX3_bestPlan 62 = .ok (.ishl, 1) := by decide +kernel
theorem dX3_bestPlan_63 : decode cX3_bestPlan 63 = .ok (.iload_n 3, 1) := by decide +kernel
theorem dX3_bestPlan_64 : decode cX3_bestPlan 64 = .ok (.ior, 1) := by decide +kernel
theorem dX3_bestPlan_65 : decode cX3_bestPlan 65 = .ok (.ireturn, 1) := by decide +kernel
theorem dX3_rulePlan_0 : decode cX3_rulePlan 0 = .ok (.bipush 6, 2) := by decide +kernel
theorem dX3_rulePlan_2 : decode cX3_rulePlan 2 = .ok (.istore_n 3, 1) := by decide +kernel
theorem dX3_rulePlan_3 : decode cX3_rulePlan 3 = .ok (.iconst 0, 1) := by decide +kernel
theorem dX3_rulePlan_4 : decode cX3_rulePlan 4 = .ok (.istore 4, 2) := by decide +kernel
theorem dX3_rulePlan_6 : decode cX3_rulePlan 6 = .ok (.iconst 0, 1) := by decide +kernel
theorem dX3_rulePlan_7 : decode cX3_rulePlan 7 = .ok (.istore 5, 2) := by decide +kernel
theorem dX3_rulePlan_9 : decode cX3_rulePlan 9 = .ok (.iload 5, 2) := by decide +kernel
theorem dX3_rulePlan_11 : decode cX3_rulePlan 11 = .ok (.aload_n 0, 1) := by decide +kernel
theorem dX3_rulePlan_12 : decode cX3_rulePlan 12 = .ok (.getfield 35, 3) := by decide +kernel
theorem dX3_rulePlan_15 : decode cX3_rulePlan 15 = .ok (.getfield 39, 3) := by decide +kernel
theorem dX3_rulePlan_18 : decode cX3_rulePlan 18 = .ok (.if_icmp .ge 51, 3) := by decide +kernel
theorem dX3_rulePlan_21 : decode cX3_rulePlan 21 = .ok (.aload_n 0, 1) := by decide +kernel
theorem dX3_rulePlan_22 : decode cX3_rulePlan 22 = .ok (.getfield 35, 3) := by decide +kernel
theorem dX3_rulePlan_25 : decode cX3_rulePlan 25 = .ok (.iload_n 2, 1) := by decide +kernel
theorem dX3_rulePlan_26 : decode cX3_rulePlan 26 = .ok (.iload 5, 2) := by decide +kernel
theorem dX3_rulePlan_28 : decode cX3_rulePlan 28 = .ok (.invokevirtual 108, 3) := by decide +kernel
theorem dX3_rulePlan_31 : decode cX3_rulePlan 31 = .ok (.ifCond .eq 32, 3) := by decide +kernel
theorem dX3_rulePlan_34 : decode cX3_rulePlan 34 = .ok (.aload_n 0, 1) := by decide +kernel
theorem dX3_rulePlan_35 : decode cX3_rulePlan 35 = .ok (.iload_n 2, 1) := by decide +kernel
theorem dX3_rulePlan_36 : decode cX3_rulePlan 36 = .ok (.iload 5, 2) := by decide +kernel
theorem dX3_rulePlan_38 : decode cX3_rulePlan 38 = .ok (.invokevirtual 111, 3) := by decide +kernel
theorem dX3_rulePlan_41 : decode cX3_rulePlan 41 = .ok (.istore 6, 2) := by decide +kernel
theorem dX3_rulePlan_43 : decode cX3_rulePlan 43 = .ok (.iload_n 3, 1) := by decide +kernel
theorem dX3_rulePlan_44 : decode cX3_rulePlan 44 = .ok (.bipush 6, 2) := by decide +kernel
theorem dX3_rulePlan_46 : decode cX3_rulePlan 46 = .ok (.if_icmp .eq 10, 3) := by decide +kernel
theorem dX3_rulePlan_49 : decode cX3_rulePlan 49 = .ok (.iload 6, 2) := by decide +kernel
theorem dX3_rulePlan_51 : decode cX3_rulePlan 51 = .ok (.iload 4, 2) := by decide +kernel
theorem dX3_rulePlan_53 : decode cX3_rulePlan 53 = .ok (.if_icmp .le 10, 3) := by decide +kernel
theorem dX3_rulePlan_56 : decode cX3_rulePlan 56 = .ok (.iload 6, 2) := by decide +kernel
theorem dX3_rulePlan_58 : decode cX3_rulePlan 58 = .ok (.istore 4, 2) := by decide +kernel
theorem dX3_rulePlan_60 : decode cX3_rulePlan 60 = .ok (.iload 5, 2) := by decide +kernel
theorem dX3_rulePlan_62 : decode cX3_rulePlan 62 = .ok (.istore_n 3, 1) := by decide +kernel
theorem dX3_rulePlan_63 : decode cX3_rulePlan 63 = .ok (.iinc 5 1, 3) := by decide +kernel
theorem dX3_rulePlan_66 : decode cX3_rulePlan 66 = .ok (.goto (-57), 3) := by decide +kernel
theorem dX3_rulePlan_69 : decode cX3_rulePlan 69 = .ok (.aload_n 0, 1) := by decide +kernel
theorem dX3_rulePlan_70 : decode cX3_rulePlan 70 = .ok (.iload_n 1, 1) := by decide +kernel
theorem dX3_rulePlan_71 : decode cX3_rulePlan 71 = .ok (.iload_n 2, 1) := by decide +kernel
theorem dX3_rulePlan_72 : decode cX3_rulePlan 72 = .ok (.iload_n 3, 1) := by decide +kernel
theorem dX3_rulePlan_73 : decode cX3_rulePlan 73 = .ok (.invokevirtual 105, 3) := by decide +kernel
theorem dX3_rulePlan_76 : decode cX3_rulePlan 76 = .ok (.iconst 3, 1) := by decide +kernel
theorem dX3_rulePlan_77 : decode cX3_rulePlan 77 = .ok (.ishl, 1) := by decide +kernel
theorem dX3_rulePlan_78 : decode cX3_rulePlan 78 = .ok (.iload_n 3, 1) := by decide +kernel
theorem dX3_rulePlan_79 : decode cX3_rulePlan 79 = .ok (.ior, 1) := by decide +kernel
theorem dX3_rulePlan_80 : decode cX3_rulePlan 80 = .ok (.ireturn, 1) := by decide +kernel
theorem dX3_rankOf_0 : decode cX3_rankOf 0 = .ok (.aload_n 0, 1) := by decide +kernel
theorem dX3_rankOf_1 : decode cX3_rankOf 1 = .ok (.getfield 9, 3) := by decide +kernel
theorem dX3_rankOf_4 : decode cX3_rankOf 4 = .ok (.tableswitch 55 1 3 #[28, 34, 45], 28) := by decide +kernel
theorem dX3_rankOf_32 : decode cX3_rankOf 32 = .ok (.iload_n 1, 1) := by decide +kernel
theorem dX3_rankOf_33 : decode cX3_rankOf 33 = .ok (.iload_n 2, 1) := by decide +kernel
theorem dX3_rankOf_34 : decode cX3_rankOf 34 = .ok (.invokestatic 114, 3) := by decide +kernel
theorem dX3_rankOf_37 : decode cX3_rankOf 37 = .ok (.ireturn, 1) := by decide +kernel
theorem dX3_rankOf_38 : decode cX3_rankOf 38 = .ok (.aload_n 0, 1) := by decide +kernel
theorem dX3_rankOf_39 : decode cX3_rankOf 39 = .ok (.getfield 35, 3) := by decide +kernel
theorem dX3_rankOf_42 : decode cX3_rankOf 42 = .ok (.iload_n 1, 1) := by decide +kernel
theorem dX3_rankOf_43 : decode cX3_rankOf 43 = .ok (.iload_n 2, 1) := by decide +kernel
theorem dX3_rankOf_44 : decode cX3_rankOf 44 = .ok (.invokevirtual 117, 3) := by decide +kernel
theorem dX3_rankOf_47 : decode cX3_rankOf 47 = .ok (.ineg, 1) := by decide +kernel
theorem dX3_rankOf_48 : decode cX3_rankOf 48 = .ok (.ireturn, 1) := by decide +kernel
theorem dX3_rankOf_49 : decode cX3_rankOf 49 = .ok (.aload_n 0, 1) := by decide +kernel
theorem dX3_rankOf_50 : decode cX3_rankOf 50 = .ok (.getfield 35, 3) := by decide +kernel
theorem dX3_rankOf_53 : decode cX3_rankOf 53 = .ok (.iload_n 1, 1) := by decide +kernel
theorem dX3_rankOf_54 : decode cX3_rankOf 54 = .ok (.iload_n 2, 1) := by decide +kernel
theorem dX3_rankOf_55 : decode cX3_rankOf 55 = .ok (.invokevirtual 117, 3) := by decide +kernel
theorem dX3_rankOf_58 : decode cX3_rankOf 58 = .ok (.ireturn, 1) := by decide +kernel
theorem dX3_rankOf_59 : decode cX3_rankOf 59 = .ok (.iconst 0, 1) := by decide +kernel
theorem dX3_rankOf_60 : decode cX3_rankOf 60 = .ok (.ireturn, 1) := by decide +kernel
theorem dX3_mean_0 : decode cX3_mean 0 = .ok (.iload_n 3, 1) := by decide +kernel
theorem dX3_mean_1 : decode cX3_mean 1 = .ok (.ifCond .ne 18, 3) := by decide +kernel
theorem dX3_mean_4 : decode cX3_mean 4 = .ok (.iload_n 1, 1) := by decide +kernel
theorem dX3_mean_5 : decode cX3_mean 5 = .ok (.iconst 1, 1) := by decide +kernel
theorem dX3_mean_6 : decode cX3_mean 6 = .ok (.iadd, 1) := by decide +kernel
theorem dX3_mean_7 : decode cX3_mean 7 = .ok (.aload_n 0, 1) := by decide +kernel
theorem dX3_mean_8 : decode cX3_mean 8 = .ok (.getfield 35, 3) := by decide +kernel
theorem dX3_mean_11 : decode cX3_mean 11 = .ok (.getfield 44, 3) := by decide +kernel
theorem dX3_mean_14 : decode cX3_mean 14 = .ok (.if_icmp .lt 5, 3) := by decide +kernel
theorem dX3_mean_17 : decode cX3_mean 17 = .ok (.iconst 0, 1) := by decide +kernel
theorem dX3_mean_18 : decode cX3_mean 18 = .ok (.ireturn, 1) := by decide +kernel
theorem dX3_mean_19 : decode cX3_mean 19 = .ok (.aload_n 0, 1) := by decide +kernel
theorem dX3_mean_20 : decode cX3_mean 20 = .ok (.getfield 35, 3) := by decide +kernel
theorem dX3_mean_23 : decode cX3_mean 23 = .ok (.iload_n 2, 1) := by decide +kernel
theorem dX3_mean_24 : decode cX3_mean 24 = .ok (.aload_n 0, 1) := by decide +kernel
theorem dX3_mean_25 : decode cX3_mean 25 = .ok (.getfield 15, 3) := by decide +kernel
theorem dX3_mean_28 : decode cX3_mean 28 = .ok (.iconst 0, 1) := by decide +kernel
theorem dX3_mean_29 : decode cX3_mean 29 = .ok (.iload_n 1, 1) := by decide +kernel
theorem dX3_mean_30 : decode cX3_mean 30 = .ok (.invokevirtual 120, 3) := by decide +kernel
theorem dX3_mean_33 : decode cX3_mean 33 = .ok (.istore 4, 2) := by decide +kernel
theorem dX3_mean_35 : decode cX3_mean 35 = .ok (.aload_n 0, 1) := by decide +kernel
theorem dX3_mean_36 : decode cX3_mean 36 = .ok (.getfield 35, 3) := by decide +kernel
theorem dX3_mean_39 : decode cX3_mean 39 = .ok (.iload_n 2, 1) := by decide +kernel
theorem dX3_mean_40 : decode cX3_mean 40 = .ok (.aload_n 0, 1) := by decide +kernel
theorem dX3_mean_41 : decode cX3_mean 41 = .ok (.getfield 15, 3) := by decide +kernel
theorem dX3_mean_44 : decode cX3_mean 44 = .ok (.iconst 1, 1) := by decide +kernel
theorem dX3_mean_45 : decode cX3_mean 45 = .ok (.iload_n 1, 1) := by decide +kernel
theorem dX3_mean_46 : decode cX3_mean 46 = .ok (.invokevirtual 120, 3) := by decide +kernel
theorem dX3_mean_49 : decode cX3_mean 49 = .ok (.istore 5, 2) := by decide +kernel
theorem dX3_mean_51 : decode cX3_mean 51 = .ok (.aload_n 0, 1) := by decide +kernel
theorem dX3_mean_52 : decode cX3_mean 52 = .ok (.getfield 35, 3) := by decide +kernel
theorem dX3_mean_55 : decode cX3_mean 55 = .ok (.iload_n 2, 1) := by decide +kernel
theorem dX3_mean_56 : decode cX3_mean 56 = .ok (.aload_n 0, 1) := by decide +kernel
theorem dX3_mean_57 : decode cX3_mean 57 = .ok (.getfield 15, 3) := by decide +kernel
theorem dX3_mean_60 : decode cX3_mean 60 = .ok (.iconst 2, 1) := by decide +kernel
theorem dX3_mean_61 : decode cX3_mean 61 = .ok (.iload_n 1, 1) := by decide +kernel
theorem dX3_mean_62 : decode cX3_mean 62 = .ok (.invokevirtual 120, 3) := by decide +kernel
theorem dX3_mean_65 : decode cX3_mean 65 = .ok (.istore 6, 2) := by decide +kernel
theorem dX3_mean_67 : decode cX3_mean 67 = .ok (.lconst 0, 1) := by decide +kernel
theorem dX3_mean_68 : decode cX3_mean 68 = .ok (.lstore 7, 2) := by decide +kernel
theorem dX3_mean_70 : decode cX3_mean 70 = .ok (.iconst 0, 1) := by decide +kernel
theorem dX3_mean_71 : decode cX3_mean 71 = .ok (.istore 9, 2) := by decide +kernel
theorem dX3_mean_73 : decode cX3_mean 73 = .ok (.iload 9, 2) := by decide +kernel
theorem dX3_mean_75 : decode cX3_mean 75 = .ok (.iconst 1, 1) := by decide +kernel
theorem dX3_mean_76 : decode cX3_mean 76 = .ok (.if_icmp .gt 153, 3) := by decide +kernel
theorem dX3_mean_79 : decode cX3_mean 79 = .ok (.iload 9, 2) := by decide +kernel
theorem dX3_mean_81 : decode cX3_mean 81 = .ok (.iload 6, 2) := by decide +kernel
theorem dX3_mean_83 : decode cX3_mean 83 = .ok (.invokestatic 124, 3) := by decide +kernel
theorem dX3_mean_86 : decode cX3_mean 86 = .ok (.istore 10, 2) := by decide +kernel
theorem dX3_mean_88 : decode cX3_mean 88 = .ok (.iconst 0, 1) := by decide +kernel
theorem dX3_mean_89 : decode cX3_mean 89 = .ok (.istore 11, 2) := by decide +kernel
theorem dX3_mean_91 : decode cX3_mean 91 = .ok (.iload 11, 2) := by decide +kernel
theorem dX3_mean_93 : decode cX3_mean 93 = .ok (.iconst 1, 1) := by decide +kernel
theorem dX3_mean_94 : decode cX3_mean 94 = .ok (.if_icmp .gt 129, 3) := by decide +kernel
theorem dX3_mean_97 : decode cX3_mean 97 = .ok (.iload 10, 2) := by decide +kernel
theorem dX3_mean_99 : decode cX3_mean 99 = .ok (.ifCond .le 124, 3) := by decide +kernel
theorem dX3_mean_102 : decode cX3_mean 102 = .ok (.iload 10, 2) := by decide +kernel
theorem dX3_mean_104 : decode cX3_mean 104 = .ok (.iload 11, 2) := by decide +kernel
theorem dX3_mean_106 : decode cX3_mean 106 = .ok (.iload 5, 2) := by decide +kernel
theorem dX3_mean_108 : decode cX3_mean 108 = .ok (.invokestatic 124, 3) := by decide +kernel
theorem dX3_mean_111 : decode cX3_mean 111 = .ok (.imul, 1) := by decide +kernel
theorem dX3_mean_112 : decode cX3_mean 112 = .ok (.istore 12, 2) := by decide +kernel
theorem dX3_mean_114 : decode cX3_mean 114 = .ok (.iconst 0, 1) := by decide +kernel
theorem dX3_mean_115 : decode cX3_mean 115 = .ok (.istore 13, 2) := by decide +kernel
theorem dX3_mean_117 : decode cX3_mean 117 = .ok (.iload 13, 2) := by decide +kernel
theorem dX3_mean_119 : decode cX3_mean 119 = .ok (.iconst 1, 1) := by decide +kernel
theorem dX3_mean_120 : decode cX3_mean 120 = .ok (.if_icmp .gt 97, 3) := by decide +kernel
theorem dX3_mean_123 : decode cX3_mean 123 = .ok (.iload 12, 2) := by decide +kernel
theorem dX3_mean_125 : decode cX3_mean 125 = .ok (.ifCond .le 92, 3) := by decide +kernel
theorem dX3_mean_128 : decode cX3_mean 128 = .ok (.iload 12, 2) := by decide +kernel
theorem dX3_mean_130 : decode cX3_mean 130 = .ok (.iload 13, 2) := by decide +kernel
theorem dX3_mean_132 : decode cX3_mean 132 = .ok (.iload 4, 2) := by decide +kernel
theorem dX3_mean_134 : decode cX3_mean 134 = .ok (.invokestatic 124, 3) := by decide +kernel
theorem dX3_mean_137 : decode cX3_mean 137 = .ok (.imul, 1) := by decide +kernel
theorem dX3_mean_138 : decode cX3_mean 138 = .ok (.istore 14, 2) := by decide +kernel
theorem dX3_mean_140 : decode cX3_mean 140 = .ok (.iload 14, 2) := by decide +kernel
theorem dX3_mean_142 : decode cX3_mean 142 = .ok (.ifCond .le 69, 3) := by decide +kernel
theorem dX3_mean_145 : decode cX3_mean 145 = .ok (.iload_n 2, 1) := by decide +kernel
theorem dX3_mean_146 : decode cX3_mean 146 = .ok (.iconst 0, 1) := by decide +kernel
theorem dX3_mean_147 : decode cX3_mean 147 = .ok (.iload 13, 2) := by decide +kernel
theorem dX3_mean_149 : decode cX3_mean 149 = .ok (.iconst 0, 1) := by decide +kernel
theorem dX3_mean_150 : decode cX3_mean 150 = .ok (.invokestatic 127, 3) := by decide +kernel
theorem dX3_mean_153 : decode cX3_mean 153 = .ok (.iadd, 1) := by decide +kernel
theorem dX3_mean_154 : decode cX3_mean 154 = .ok (.iconst 1, 1) := by decide +kernel
theorem dX3_mean_155 : decode cX3_mean 155 = .ok (.iload 11, 2) := by decide +kernel
theorem dX3_mean_157 : decode cX3_mean 157 = .ok (.iconst 0, 1) := by decide +kernel
theorem dX3_mean_158 : decode cX3_mean 158 = .ok (.invokestatic 127, 3) := by decide +kernel
theorem dX3_mean_161 : decode cX3_mean 161 = .ok (.iadd, 1) := by decide +kernel
theorem dX3_mean_162 : decode cX3_mean 162 = .ok (.iconst 2, 1) := by decide +kernel
theorem dX3_mean_163 : decode cX3_mean 163 = .ok (.iload 9, 2) := by decide +kernel
theorem dX3_mean_165 : decode cX3_mean 165 = .ok (.iconst 0, 1) := by decide +kernel
theorem dX3_mean_166 : decode cX3_mean 166 = .ok (.invokestatic 127, 3) := by decide +kernel
theorem dX3_mean_169 : decode cX3_mean 169 = .ok (.iadd, 1) := by decide +kernel
theorem dX3_mean_170 : decode cX3_mean 170 = .ok (.istore 15, 2) := by decide +kernel
theorem dX3_mean_172 : decode cX3_mean 172 = .ok (.iload_n 3, 1) := by decide +kernel
theorem dX3_mean_173 : decode cX3_mean 173 = .ok (.ifCond .eq 15, 3) := by decide +kernel
theorem dX3_mean_176 : decode cX3_mean 176 = .ok (.aload_n 0, 1) := by decide +kernel
theorem dX3_mean_177 : decode cX3_mean 177 = .ok (.iload_n 1, 1) := by decide +kernel
theorem dX3_mean_178 : decode cX3_mean 178 = .ok (.iconst 1, 1) := by decide +kernel
theorem dX3_mean_179 : decode cX3_mean 179 = .ok (.iadd, 1) := by decide +kernel
theorem dX3_mean_180 : decode cX3_mean 180 = .ok (.iload 15, 2) := by decide +kernel
theorem dX3_mean_182 : decode cX3_mean 182 = .ok (.invokevirtual 130, 3) := by decide +kernel
theorem dX3_mean_185 : decode cX3_mean 185 = .ok (.goto 12, 3) := by decide +kernel
theorem dX3_mean_188 : decode cX3_mean 188 = .ok (.aload_n 0, 1) := by decide +kernel
theorem dX3_mean_189 : decode cX3_mean 189 = .ok (.iload_n 1, 1) := by decide +kernel
theorem dX3_mean_190 : decode cX3_mean 190 = .ok (.iconst 1, 1) := by decide +kernel
theorem dX3_mean_191 : decode cX3_mean 191 = .ok (.iadd, 1) := by decide +kernel
theorem dX3_mean_192 : decode cX3_mean 192 = .ok (.iload 15, 2) := by decide +kernel
theorem dX3_mean_194 : decode cX3_mean 194 = .ok (.invokevirtual 133, 3) := by decide +kernel
theorem dX3_mean_197 : decode cX3_mean 197 = .ok (.istore 16, 2) := by decide +kernel
theorem dX3_mean_199 : decode cX3_mean 199 = .ok (.lload 7, 2) := by decide +kernel
theorem dX3_mean_201 : decode cX3_mean 201 = .ok (.iload 14, 2) := by decide +kernel
theorem dX3_mean_203 : decode cX3_mean 203 = .ok (.i2l, 1) := by decide +kernel
theorem dX3_mean_204 : decode cX3_mean 204 = .ok (.iload 16, 2) := by decide +kernel
theorem dX3_mean_206 : decode cX3_mean 206 = .ok (.i2l, 1) := by decide +kernel
theorem dX3_mean_207 : decode cX3_mean 207 = .ok (.lmul, 1) := by decide +kernel
theorem dX3_mean_208 : decode cX3_mean 208 = .ok (.ladd, 1) := by decide +kernel
theorem dX3_mean_209 : decode cX3_mean 209 = .ok (.lstore 7, 2) := by decide +kernel
theorem dX3_mean_211 : decode cX3_mean 211 = .ok (.iinc 13 1, 3) := by decide +kernel
theorem dX3_mean_214 : decode cX3_mean 214 = .ok (.goto (-97), 3) := by decide +kernel
theorem dX3_mean_217 : decode cX3_mean 217 = .ok (.iinc 11 1, 3) := by decide +kernel
theorem dX3_mean_220 : decode cX3_mean 220 = .ok (.goto (-129), 3) := by decide +kernel
theorem dX3_mean_223 : decode cX3_mean 223 = .ok (.iinc 9 1, 3) := by decide +kernel
theorem dX3_mean_226 : decode cX3_mean 226 = .ok (.goto (-153), 3) := by decide +kernel
theorem dX3_mean_229 : decode cX3_mean 229 = .ok (.lload 7, 2) := by decide +kernel
theorem dX3_mean_231 : decode cX3_mean 231 = .ok (.ldc2_w 136, 3) := by decide +kernel
theorem dX3_mean_234 : decode cX3_mean 234 = .ok (.ldiv, 1) := by decide +kernel
theorem dX3_mean_235 : decode cX3_mean 235 = .ok (.l2i, 1) := by decide +kernel
theorem dX3_mean_236 : decode cX3_mean 236 = .ok (.ireturn, 1) := by decide +kernel
theorem dX3_share_0 : decode cX3_share 0 = .ok (.iload_n 0, 1) := by decide +kernel
theorem dX3_share_1 : decode cX3_share 1 = .ok (.iconst 1, 1) := by decide +kernel
theorem dX3_share_2 : decode cX3_share 2 = .ok (.if_icmp .ne 7, 3) := by decide +kernel
theorem dX3_share_5 : decode cX3_share 5 = .ok (.iload_n 1, 1) := by decide +kernel
theorem dX3_share_6 : decode cX3_share 6 = .ok (.goto 7, 3) := by decide +kernel
theorem dX3_share_9 : decode cX3_share 9 = .ok (.bipush 10, 2) := by decide +kernel
theorem dX3_share_11 : decode cX3_share 11 = .ok (.iload_n 1, 1) := by decide +kernel
theorem dX3_share_12 : decode cX3_share 12 = .ok (.isub, 1) := by decide +kernel
theorem dX3_share_13 : decode cX3_share 13 = .ok (.ireturn, 1) := by decide +kernel
theorem dX4_init_0 : decode cX4_init 0 = .ok (.aload_n 0, 1) := by decide +kernel
theorem dX4_init_1 : decode cX4_init 1 = .ok (.invokespecial 3, 3) := by decide +kernel
theorem dX4_init_4 : decode cX4_init 4 = .ok (.aload_n 0, 1) := by decide +kernel
theorem dX4_init_5 : decode cX4_init 5 = .ok (.sipush 401, 3) := by decide +kernel
theorem dX4_init_8 : decode cX4_init 8 = .ok (.newarray .int, 2) := by decide +kernel
theorem dX4_init_10 : decode cX4_init 10 = .ok (.putfield 9, 3) := by decide +kernel
theorem dX4_init_13 : decode cX4_init 13 = .ok (.aload_n 0, 1) := by decide +kernel
theorem dX4_init_14 : decode cX4_init 14 = .ok (.sipush 401, 3) := by decide +kernel
theorem dX4_init_17 : decode cX4_init 17 = .ok (.newarray .int, 2) := by decide +kernel
theorem dX4_init_19 : decode cX4_init 19 = .ok (.putfield 15, 3) := by decide +kernel
theorem dX4_init_22 : decode cX4_init 22 = .ok (.aload_n 0, 1) := by decide +kernel
theorem dX4_init_23 : decode cX4_init 23 = .ok (.sipush 401, 3) := by decide +kernel
theorem dX4_init_26 : decode cX4_init 26 = .ok (.newarray .int, 2) := by decide +kernel
theorem dX4_init_28 : decode cX4_init 28 = .ok (.putfield 18, 3) := by decide +kernel
theorem dX4_init_31 : decode cX4_init 31 = .ok (.aload_n 0, 1) := by decide +kernel
theorem dX4_init_32 : decode cX4_init 32 = .ok (.iconst 0, 1) := by decide +kernel
theorem dX4_init_33 : decode cX4_init 33 = .ok (.putfield 21, 3) := by decide +kernel
theorem dX4_init_36 : decode cX4_init 36 = .ok (.aload_n 0, 1) := by decide +kernel
theorem dX4_init_37 : decode cX4_init 37 = .ok (.iconst 0, 1) := by decide +kernel
theorem dX4_init_38 : decode cX4_init 38 = .ok (.putfield 25, 3) := by decide +kernel
theorem dX4_init_41 : decode cX4_init 41 = .ok (.aload_n 0, 1) := by decide +kernel
theorem dX4_init_42 : decode cX4_init 42 = .ok (.iconst 0, 1) := by decide +kernel
theorem dX4_init_43 : decode cX4_init 43 = .ok (.putfield 28, 3) := by decide +kernel
theorem dX4_init_46 : decode cX4_init 46 = .ok (.aload_n 0, 1) := by decide +kernel
theorem dX4_init_47 : decode cX4_init 47 = .ok (.iconst 0, 1) := by decide +kernel
theorem dX4_init_48 : decode cX4_init 48 = .ok (.putfield 31, 3) := by decide +kernel
theorem dX4_init_51 : decode cX4_init 51 = .ok (.aload_n 0, 1) := by decide +kernel
theorem dX4_init_52 : decode cX4_init 52 = .ok (.aload_n 1, 1) := by decide +kernel
theorem dX4_init_53 : decode cX4_init 53 = .ok (.putfield 34, 3) := by decide +kernel
theorem dX4_init_56 : decode cX4_init 56 = .ok (.aload_n 0, 1) := by decide +kernel
theorem dX4_init_57 : decode cX4_init 57 = .ok (.aload_n 2, 1) := by decide +kernel
theorem dX4_init_58 : decode cX4_init 58 = .ok (.putfield 38, 3) := by decide +kernel
theorem dX4_init_61 : decode cX4_init 61 = .ok (.return_, 1) := by decide +kernel
theorem dX4_readAll_0 : decode cX4_readAll 0 = .ok (.aload_n 0, 1) := by decide +kernel
theorem dX4_readAll_1 : decode cX4_readAll 1 = .ok (.iconst 0, 1) := by decide +kernel
theorem dX4_readAll_2 : decode cX4_readAll 2 = .ok (.iload_n 1, 1) := by decide +kernel
theorem dX4_readAll_3 : decode cX4_readAll 3 = .ok (.sipush 400, 3) := by decide +kernel
theorem dX4_readAll_6 : decode cX4_readAll 6 = .ok (.invokestatic 42, 3) := by decide +kernel
theorem dX4_readAll_9 : decode cX4_readAll 9 = .ok (.invokestatic 48, 3) := by decide +kernel
theorem dX4_readAll_12 : decode cX4_readAll 12 = .ok (.putfield 21, 3) := by decide +kernel
theorem dX4_readAll_15 : decode cX4_readAll 15 = .ok (.aload_n 0, 1) := by decide +kernel
theorem dX4_readAll_16 : decode cX4_readAll 16 = .ok (.invokevirtual 51, 3) := by decide +kernel
theorem dX4_readAll_19 : decode cX4_readAll 19 = .ok (.aload_n 0, 1) := by decide +kernel
theorem dX4_readAll_20 : decode cX4_readAll 20 = .ok (.getfield 38, 3) := by decide +kernel
theorem dX4_readAll_23 : decode cX4_readAll 23 = .ok (.invokevirtual 54, 3) := by decide +kernel
theorem dX4_readAll_26 : decode cX4_readAll 26 = .ok (.aload_n 0, 1) := by decide +kernel
theorem dX4_readAll_27 : decode cX4_readAll 27 = .ok (.iconst 0, 1) := by decide +kernel
theorem dX4_readAll_28 : decode cX4_readAll 28 = .ok (.invokevirtual 59, 3) := by decide +kernel
theorem dX4_readAll_31 : decode cX4_readAll 31 = .ok (.iconst 0, 1) := by decide +kernel
theorem dX4_readAll_32 : decode cX4_readAll 32 = .ok (.istore_n 2, 1) := by decide +kernel
theorem dX4_readAll_33 : decode cX4_readAll 33 = .ok (.iload_n 2, 1) := by decide +kernel
theorem dX4_readAll_34 : decode cX4_readAll 34 = .ok (.sipush 400, 3) := by decide +kernel
theorem dX4_readAll_37 : decode cX4_readAll 37 = .ok (.if_icmp .ge 37, 3) := by decide +kernel
theorem dX4_readAll_40 : decode cX4_readAll 40 = .ok (.aload_n 0, 1) := by decide +kernel
theorem dX4_readAll_41 : decode cX4_readAll 41 = .ok (.getfield 28, 3) := by decide +kernel
theorem dX4_readAll_44 : decode cX4_readAll 44 = .ok (.ifCond .ne 5, 3) := by decide +kernel
theorem dX4_readAll_47 : decode cX4_readAll 47 = .ok (.iload_n 2, 1) := by decide +kernel
theorem dX4_readAll_48 : decode cX4_readAll 48 = .ok (.ireturn, 1) := by decide +kernel
theorem dX4_readAll_49 : decode cX4_readAll 49 = .ok (.aload_n 0, 1) := by decide +kernel
theorem dX4_readAll_50 : decode cX4_readAll 50 = .ok (.iload_n 2, 1) := by decide +kernel
theorem dX4_readAll_51 : decode cX4_readAll 51 = .ok (.ifCond .ne 7, 3) := by decide +kernel
theorem dX4_readAll_54 : decode cX4_readAll 54 = .ok (.iconst 1, 1) := by decide +kernel
theorem dX4_readAll_55 : decode cX4_readAll 55 = .ok (.goto 4, 3) := by decide +kernel
theorem dX4_readAll_58 : decode cX4_readAll 58 = .ok (.iconst 0, 1) := by decide +kernel
theorem dX4_readAll_59 : decode cX4_readAll 59 = .ok (.invokevirtual 63, 3) := by decide +kernel
theorem dX4_readAll_62 : decode cX4_readAll 62 = .ok (.ifCond .ne 6, 3) := by decide +kernel
theorem dX4_readAll_65 : decode cX4_readAll 65 = .ok (.goto 9, 3) := by decide +kernel
theorem dX4_readAll_68 : decode cX4_readAll 68 = .ok (.iinc 2 1, 3) := by decide +kernel
theorem dX4_readAll_71 : decode cX4_readAll 71 = .ok (.goto (-38), 3) := by decide +kernel
theorem dX4_readAll_74 : decode cX4_readAll 74 = .ok (.bipush (-10), 2) := by decide +kernel
theorem dX4_readAll_76 : decode cX4_readAll 76 = .ok (.aload_n 0, 1) := by decide +kernel
theorem dX4_readAll_77 : decode cX4_readAll 77 = .ok (.getfield 18, 3) := by decide +kernel
theorem dX4_readAll_80 : decode cX4_readAll 80 = .ok (.aload_n 0, 1) := by decide +kernel
theorem dX4_readAll_81 : decode cX4_readAll 81 = .ok (.getfield 25, 3) := by decide +kernel
theorem dX4_readAll_84 : decode cX4_readAll 84 = .ok (.iaload, 1) := by decide +kernel
theorem dX4_readAll_85 : decode cX4_readAll 85 = .ok (.isub, 1) := by decide +kernel
theorem dX4_readAll_86 : decode cX4_readAll 86 = .ok (.ireturn, 1) := by decide +kernel
theorem dX4_lookAt_0 : decode cX4_lookAt 0 = .ok (.iload_n 1, 1) := by decide +kernel
theorem dX4_lookAt_1 : decode cX4_lookAt 1 = .ok (.ifCond .lt 37, 3) := by decide +kernel
theorem dX4_lookAt_4 : decode cX4_lookAt 4 = .ok (.iload_n 1, 1) := by decide +kernel
theorem dX4_lookAt_5 : decode cX4_lookAt 5 = .ok (.aload_n 0, 1) := by decide +kernel
theorem dX4_lookAt_6 : decode cX4_lookAt 6 = .ok (.getfield 9, 3) := by decide +kernel
theorem dX4_lookAt_9 : decode cX4_lookAt 9 = .ok (.arraylength, 1) := by decide +kernel
theorem dX4_lookAt_10 : decode cX4_lookAt 10 = .ok (.if_icmp .ge 28, 3) := by decide +kernel
theorem dX4_lookAt_13 : decode cX4_lookAt 13 = .ok (.aload_n 0, 1) := by decide +kernel
theorem dX4_lookAt_14 : decode cX4_lookAt 14 = .ok (.iload_n 1, 1) := by decide +kernel
theorem dX4_lookAt_15 : decode cX4_lookAt 15 = .ok (.putfield 25, 3) := by decide +kernel
theorem dX4_lookAt_18 : decode cX4_lookAt 18 = .ok (.aload_n 0, 1) := by decide +kernel
theorem dX4_lookAt_19 : decode cX4_lookAt 19 = .ok (.aload_n 0, 1) := by decide +kernel
theorem dX4_lookAt_20 : decode cX4_lookAt 20 = .ok (.getfield 9, 3) := by decide +kernel
theorem dX4_lookAt_23 : decode cX4_lookAt 23 = .ok (.iload_n 1, 1) := by decide +kernel
theorem dX4_lookAt_24 : decode cX4_lookAt 24 = .ok (.iaload, 1) := by decide +kernel
theorem dX4_lookAt_25 : decode cX4_lookAt 25 = .ok (.putfield 28, 3) := by decide +kernel
theorem dX4_lookAt_28 : decode cX4_lookAt 28 = .ok (.aload_n 0, 1) := by decide +kernel
theorem dX4_lookAt_29 : decode cX4_lookAt 29 = .ok (.aload_n 0, 1) := by decide +kernel
theorem dX4_lookAt_30 : decode cX4_lookAt 30 = .ok (.getfield 15, 3) := by decide +kernel
theorem dX4_lookAt_33 : decode cX4_lookAt 33 = .ok (.iload_n 1, 1) := by decide +kernel
theorem dX4_lookAt_34 : decode cX4_lookAt 34 = .ok (.iaload, 1) := by decide +kernel
theorem dX4_lookAt_35 : decode cX4_lookAt 35 = .ok (.putfield 31, 3) := by decide +kernel
theorem dX4_lookAt_38 : decode cX4_lookAt 38 = .ok (.return_, 1) := by decide +kernel
theorem dX4_readItem_0 : decode cX4_readItem 0 = .ok (.aload_n 0, 1) := by decide +kernel
theorem dX4_readItem_1 : decode cX4_readItem 1 = .ok (.getfield 28, 3) := by decide +kernel
theorem dX4_readItem_4 : decode cX4_readItem 4 = .ok (.tableswitch 149 4 12 #[52, 69, 149, 149, 149, 93, 117, 122, 135], 52) := by decide +kernel
theorem dX4_readItem_56 : decode cX4_readItem 56 = .ok (.iload_n 1, 1) := by decide +kernel
theorem dX4_readItem_57 : decode cX4_readItem 57 = .ok (.ifCond .eq 14, 3) := by decide +kernel
theorem dX4_readItem_60 : decode cX4_readItem 60 = .ok (.aload_n 0, 1) := by decide +kernel
theorem dX4_readItem_61 : decode cX4_readItem 61 = .ok (.invokevirtual 67, 3) := by decide +kernel
theorem dX4_readItem_64 : decode cX4_readItem 64 = .ok (.ifCond .eq 7, 3) := by decide +kernel
theorem dX4_readItem_67 : decode cX4_readItem 67 = .ok (.iconst 1, 1) := by decide +kernel
theorem dX4_readItem_68 : decode cX4_readItem 68 = .ok (.goto 4, 3) := by decide +kernel
theorem dX4_readItem_71 : decode cX4_readItem 71 = .ok (.iconst 0, 1) := by decide +kernel
theorem dX4_readItem_72 : decode cX4_readItem 72 = .ok (.ireturn, 1) := by decide +kernel
theorem dX4_readItem_73 : decode cX4_readItem 73 = .ok (.aload_n 0, 1) := by decide +kernel
theorem dX4_readItem_74 : decode cX4_readItem 74 = .ok (.getfield 38, 3) := by decide +kernel
theorem dX4_readItem_77 : decode cX4_readItem 77 = .ok (.getfield 71, 3) := by decide +kernel
theorem dX4_readItem_80 : decode cX4_readItem 80 = .ok (.iconst 4, 1) := by decide +kernel
theorem dX4_readItem_81 : decode cX4_readItem 81 = .ok (.if_icmp .ge 14, 3) := by decide +kernel
theorem dX4_readItem_84 : decode cX4_readItem 84 = .ok (.aload_n 0, 1) := by decide +kernel
theorem dX4_readItem_85 : decode cX4_readItem 85 = .ok (.invokevirtual 74, 3) := by decide +kernel
theorem dX4_readItem_88 : decode cX4_readItem 88 = .ok (.ifCond .eq 7, 3) := by decide +kernel
theorem dX4_readItem_91 : decode cX4_readItem 91 = .ok (.iconst 1, 1) := by decide +kernel
theorem dX4_readItem_92 : decode cX4_readItem 92 = .ok (.goto 4, 3) := by decide +kernel
theorem dX4_readItem_95 : decode cX4_readItem 95 = .ok (.iconst 0, 1) := by decide +kernel
theorem dX4_readItem_96 : decode cX4_readItem 96 = .ok (.ireturn, 1) := by decide +kernel
theorem dX4_readItem_97 : decode cX4_readItem 97 = .ok (.aload_n 0, 1) := by decide +kernel
theorem dX4_readItem_98 : decode cX4_readItem 98 = .ok (.getfield 38, 3) := by decide +kernel
theorem dX4_readItem_101 : decode cX4_readItem 101 = .ok (.getfield 77, 3) := by decide +kernel
theorem dX4_readItem_104 : decode cX4_readItem 104 = .ok (.iconst 3, 1) := by decide +kernel
theorem dX4_readItem_105 : decode cX4_readItem 105 = .ok (.if_icmp .ge 14, 3) := by decide +kernel
theorem dX4_readItem_108 : decode cX4_readItem 108 = .ok (.aload_n 0, 1) := by decide +kernel
theorem dX4_readItem_109 : decode cX4_readItem 109 = .ok (.invokevirtual 80, 3) := by decide +kernel
theorem dX4_readItem_112 : decode cX4_readItem 112 = .ok (.ifCond .eq 7, 3) := by decide +kernel
theorem dX4_readItem_115 : decode cX4_readItem 115 = .ok (.iconst 1, 1) := by decide +kernel
theorem dX4_readItem_116 : decode cX4_readItem 116 = .ok (.goto 4, 3) := by decide +kernel
theorem dX4_readItem_119 : decode cX4_readItem 119 = .ok (.iconst 0, 1) := by decide +kernel
theorem dX4_readItem_120 : decode cX4_readItem 120 = .ok (.ireturn, 1) := by decide +kernel
theorem dX4_readItem_121 : decode cX4_readItem 121 = .ok (.aload_n 0, 1) := by decide +kernel
theorem dX4_readItem_122 : decode cX4_readItem 122 = .ok (.invokevirtual 83, 3) := by decide +kernel
theorem dX4_readItem_125 : decode cX4_readItem 125 = .ok (.ireturn, 1) := by decide +kernel
theorem dX4_readItem_126 : decode cX4_readItem 126 = .ok (.aload_n 0, 1) := by decide +kernel
theorem dX4_readItem_127 : decode cX4_readItem 127 = .ok (.aload_n 0, 1) := by decide +kernel
theorem dX4_readItem_128 : decode cX4_readItem 128 = .ok (.getfield 38, 3) := by decide +kernel
theorem dX4_readItem_131 : decode cX4_readItem 131 = .ok (.getfield 86, 3) := by decide +kernel
theorem dX4_readItem_134 : decode cX4_readItem 134 = .ok (.iconst 5, 1) := by decide +kernel
theorem dX4_readItem_135 : decode cX4_readItem 135 = .ok (.invokevirtual 89, 3) := by decide +kernel
theorem dX4_readItem_138 : decode cX4_readItem 138 = .ok (.ireturn, 1) := by decide +kernel
theorem dX4_readItem_139 : decode cX4_readItem 139 = .ok (.aload_n 0, 1) := by decide +kernel
theorem dX4_readItem_140 : decode cX4_readItem 140 = .ok (.aload_n 0, 1) := by decide +kernel
theorem dX4_readItem_141 : decode cX4_readItem 141 = .ok (.getfield 38, 3) := by decide +kernel
theorem dX4_readItem_144 : decode cX4_readItem 144 = .ok (.getfield 93, 3) := by decide +kernel
theorem dX4_readItem_147 : decode cX4_readItem 147 = .ok (.bipush 99, 2) := by decide +kernel
theorem dX4_readItem_149 : decode cX4_readItem 149 = .ok (.invokevirtual 89, 3) := by decide +kernel
theorem dX4_readItem_152 : decode cX4_readItem 152 = .ok (.ireturn, 1) := by decide +kernel
theorem dX4_readItem_153 : decode cX4_readItem 153 = .ok (.iconst 0, 1) := by decide +kernel
theorem dX4_readItem_154 : decode cX4_readItem 154 = .ok (.ireturn, 1) := by decide +kernel
theorem dX4_readWeeks_0 : decode cX4_readWeeks 0 = .ok (.aload_n 0, 1) := by decide +kernel
theorem dX4_readWeeks_1 : decode cX4_readWeeks 1 = .ok (.aload_n 0, 1) := by decide +kernel
theorem dX4_readWeeks_2 : decode cX4_readWeeks 2 = .ok (.getfield 25, 3) := by decide +kernel
theorem dX4_readWeeks_5 : decode cX4_readWeeks 5 = .ok (.iconst 1, 1) := by decide +kernel
theorem dX4_readWeeks_6 : decode cX4_readWeeks 6 = .ok (.iadd, 1) := by decide +kernel
theorem dX4_readWeeks_7 : decode cX4_readWeeks 7 = .ok (.invokevirtual 59, 3) := by decide +kernel
theorem dX4_readWeeks_10 : decode cX4_readWeeks 10 = .ok (.aload_n 0, 1) := by decide +kernel
theorem dX4_readWeeks_11 : decode cX4_readWeeks 11 = .ok (.iconst 1, 1) := by decide +kernel
theorem dX4_readWeeks_12 : decode cX4_readWeeks 12 = .ok (.bipush 8, 2) := by decide +kernel
theorem dX4_readWeeks_14 : decode cX4_readWeeks 14 = .ok (.invokevirtual 96, 3) := by decide +kernel
theorem dX4_readWeeks_17 : decode cX4_readWeeks 17 = .ok (.ifCond .ne 5, 3) := by decide +kernel
theorem dX4_readWeeks_20 : decode cX4_readWeeks 20 = .ok (.iconst 0, 1) := by decide +kernel
theorem dX4_readWeeks_21 : decode cX4_readWeeks 21 = .ok (.ireturn, 1) := by decide +kernel
theorem dX4_readWeeks_22 : decode cX4_readWeeks 22 = .ok (.aload_n 0, 1) := by decide +kernel
theorem dX4_readWeeks_23 : decode cX4_readWeeks 23 = .ok (.getfield 38, 3) := by decide +kernel
theorem dX4_readWeeks_26 : decode cX4_readWeeks 26 = .ok (.aload_n 0, 1) := by decide +kernel
theorem dX4_readWeeks_27 : decode cX4_readWeeks 27 = .ok (.getfield 31, 3) := by decide +kernel
theorem dX4_readWeeks_30 : decode cX4_readWeeks 30 = .ok (.putfield 100, 3) := by decide +kernel
theorem dX4_readWeeks_33 : decode cX4_readWeeks 33 = .ok (.aload_n 0, 1) := by decide +kernel
theorem dX4_readWeeks_34 : decode cX4_readWeeks 34 = .ok (.aload_n 0, 1) := by decide +kernel
theorem dX4_readWeeks_35 : decode cX4_readWeeks 35 = .ok (.getfield 25, 3) := by decide +kernel
theorem dX4_readWeeks_38 : decode cX4_readWeeks 38 = .ok (.iconst 1, 1) := by decide +kernel
theorem dX4_readWeeks_39 : decode cX4_readWeeks 39 = .ok (.iadd, 1) := by decide +kernel
theorem dX4_readWeeks_40 : decode cX4_readWeeks 40 = .ok (.invokevirtual 59, 3) := by decide +kernel
theorem dX4_readWeeks_43 : decode cX4_readWeeks 43 = .ok (.aload_n 0, 1) := by decide +kernel
theorem dX4_readWeeks_44 : decode cX4_readWeeks 44 = .ok (.iconst 2, 1) := by decide +kernel
theorem dX4_readWeeks_45 : decode cX4_readWeeks 45 = .ok (.invokevirtual 103, 3) := by decide +kernel
theorem dX4_readWeeks_48 : decode cX4_readWeeks 48 = .ok (.ireturn, 1) := by decide +kernel
theorem dX4_readSort_0 : decode cX4_readSort 0 = .ok (.aload_n 0, 1) := by decide +kernel
theorem dX4_readSort_1 : decode cX4_readSort 1 = .ok (.getfield 38, 3) := by decide +kernel
theorem dX4_readSort_4 : decode cX4_readSort 4 = .ok (.getfield 71, 3) := by decide +kernel
theorem dX4_readSort_7 : decode cX4_readSort 7 = .ok (.istore_n 1, 1) := by decide +kernel
theorem dX4_readSort_8 : decode cX4_readSort 8 = .ok (.iload_n 1, 1) := by decide +kernel
theorem dX4_readSort_9 : decode cX4_readSort 9 = .ok (.ifCond .lt 8, 3) := by decide +kernel
theorem dX4_readSort_12 : decode cX4_readSort 12 = .ok (.iload_n 1, 1) := by decide +kernel
theorem dX4_readSort_13 : decode cX4_readSort 13 = .ok (.iconst 4, 1) := by decide +kernel
theorem dX4_readSort_14 : decode cX4_readSort 14 = .ok (.if_icmp .lt 5, 3) := by decide +kernel
theorem dX4_readSort_17 : decode cX4_readSort 17 = .ok (.iconst 0, 1) := by decide +kernel
theorem dX4_readSort_18 : decode cX4_readSort 18 = .ok (.ireturn, 1) := by decide +kernel
theorem dX4_readSort_19 : decode cX4_readSort 19 = .ok (.aload_n 0, 1) := by decide +kernel
theorem dX4_readSort_20 : decode cX4_readSort 20 = .ok (.getfield 38, 3) := by decide +kernel
theorem dX4_readSort_23 : decode cX4_readSort 23 = .ok (.getfield 107, 3) := by decide +kernel
theorem dX4_readSort_26 : decode cX4_readSort 26 = .ok (.iload_n 1, 1) := by decide +kernel
theorem dX4_readSort_27 : decode cX4_readSort 27 = .ok (.aaload, 1) := by decide +kernel
theorem dX4_readSort_28 : decode cX4_readSort 28 = .ok (.astore_n 2, 1) := by decide +kernel
theorem dX4_readSort_29 : decode cX4_readSort 29 = .ok (.aload_n 0, 1) := by decide +kernel
theorem dX4_readSort_30 : decode cX4_readSort 30 = .ok (.iconst 5, 1) := by decide +kernel
theorem dX4_readSort_31 : decode cX4_readSort 31 = .ok (.invokevirtual 103, 3) := by decide +kernel
theorem dX4_readSort_34 : decode cX4_readSort 34 = .ok (.ifCond .eq 95, 3) := by decide +kernel
theorem dX4_readSort_37 : decode cX4_readSort 37 = .ok (.aload_n 0, 1) := by decide +kernel
theorem dX4_readSort_38 : decode cX4_readSort 38 = .ok (.aload_n 2, 1) := by decide +kernel
theorem dX4_readSort_39 : decode cX4_readSort 39 = .ok (.iconst 0, 1) := by decide +kernel
theorem dX4_readSort_40 : decode cX4_readSort 40 = .ok (.iconst 4, 1) := by decide +kernel
theorem dX4_readSort_41 : decode cX4_readSort 41 = .ok (.bipush 99, 2) := by decide +kernel
theorem dX4_readSort_43 : decode cX4_readSort 43 = .ok (.invokevirtual 111, 3) := by decide +kernel
theorem dX4_readSort_46 : decode cX4_readSort 46 = .ok (.ifCond .eq 83, 3) := by decide +kernel
theorem dX4_readSort_49 : decode cX4_readSort 49 = .ok (.aload_n 0, 1) := by decide +kernel
theorem dX4_readSort_50 : decode cX4_readSort 50 = .ok (.bipush 6, 2) := by decide +kernel
theorem dX4_readSort_52 : decode cX4_readSort 52 = .ok (.invokevirtual 103, 3) := by decide +kernel
theorem dX4_readSort_55 : decode cX4_readSort 55 = .ok (.ifCond .eq 74, 3) := by decide +kernel
theorem dX4_readSort_58 : decode cX4_readSort 58 = .ok (.aload_n 0, 1) := by decide +kernel
theorem dX4_readSort_59 : decode cX4_readSort 59 = .ok (.aload_n 2, 1) := by decide +kernel
theorem dX4_readSort_60 : decode cX4_readSort 60 = .ok (.iconst 4, 1) := by decide +kernel
theorem dX4_readSort_61 : decode cX4_readSort 61 = .ok (.bipush 7, 2) := by decide +kernel
theorem dX4_readSort_63 : decode cX4_readSort 63 = .ok (.bipush 10, 2) := by decide +kernel
theorem dX4_readSort_65 : decode cX4_readSort 65 = .ok (.invokevirtual 111, 3) := by decide +kernel
theorem dX4_readSort_68 : decode cX4_readSort 68 = .ok (.ifCond .eq 61, 3) := by decide +kernel
theorem dX4_readSort_71 : decode cX4_readSort 71 = .ok (.aload_n 0, 1) := by decide +kernel
theorem dX4_readSort_72 : decode cX4_readSort 72 = .ok (.bipush 7, 2) := by decide +kernel
theorem dX4_readSort_74 : decode cX4_readSort 74 = .ok (.invokevirtual 103, 3) := by decide +kernel
theorem dX4_readSort_77 : decode cX4_readSort 77 = .ok (.ifCond .eq 52, 3) := by decide +kernel
theorem dX4_readSort_80 : decode cX4_readSort 80 = .ok (.aload_n 0, 1) := by decide +kernel
theorem dX4_readSort_81 : decode cX4_readSort 81 = .ok (.aload_n 2, 1) := by decide +kernel
theorem dX4_readSort_82 : decode cX4_readSort 82 = .ok (.bipush 7, 2) := by decide +kernel
theorem dX4_readSort_84 : decode cX4_readSort 84 = .ok (.bipush 10, 2) := by decide +kernel
theorem dX4_readSort_86 : decode cX4_readSort 86 = .ok (.bipush 10, 2) := by decide +kernel
theorem dX4_readSort_88 : decode cX4_readSort 88 = .ok (.invokevirtual 111, 3) := by decide +kernel
theorem dX4_readSort_91 : decode cX4_readSort 91 = .ok (.ifCond .eq 38, 3) := by decide +kernel
theorem dX4_readSort_94 : decode cX4_readSort 94 = .ok (.aload_n 0, 1) := by decide +kernel
theorem dX4_readSort_95 : decode cX4_readSort 95 = .ok (.bipush 8, 2) := by decide +kernel
theorem dX4_readSort_97 : decode cX4_readSort 97 = .ok (.invokevirtual 103, 3) := by decide +kernel
theorem dX4_readSort_100 : decode cX4_readSort 100 = .ok (.ifCond .eq 29, 3) := by decide +kernel
theorem dX4_readSort_103 : decode cX4_readSort 103 = .ok (.aload_n 0, 1) := by decide +kernel
theorem dX4_readSort_104 : decode cX4_readSort 104 = .ok (.aload_n 2, 1) := by decide +kernel
theorem dX4_readSort_105 : decode cX4_readSort 105 = .ok (.bipush 10, 2) := by decide +kernel
theorem dX4_readSort_107 : decode cX4_readSort 107 = .ok (.bipush 14, 2) := by decide +kernel
theorem dX4_readSort_109 : decode cX4_readSort 109 = .ok (.bipush 10, 2) := by decide +kernel
theorem dX4_readSort_111 : decode cX4_readSort 111 = .ok (.invokevirtual 111, 3) := by decide +kernel
theorem dX4_readSort_114 : decode cX4_readSort 114 = .ok (.ifCond .eq 15, 3) := by decide +kernel
theorem dX4_readSort_117 : decode cX4_readSort 117 = .ok (.aload_n 0, 1) := by decide +kernel
theorem dX4_readSort_118 : decode cX4_readSort 118 = .ok (.iconst 2, 1) := by decide +kernel
theorem dX4_readSort_119 : decode cX4_readSort 119 = .ok (.invokevirtual 103, 3) := by decide +kernel
theorem dX4_readSort_122 : decode cX4_readSort 122 = .ok (.ifCond .eq 7, 3) := by decide +kernel
theorem dX4_readSort_125 : decode cX4_readSort 125 = .ok (.iconst 1, 1) := by decide +kernel
theorem dX4_readSort_126 : decode cX4_readSort 126 = .ok (.goto 4, 3) := by decide +kernel
theorem dX4_readSort_129 : decode cX4_readSort 129 = .ok (.iconst 0, 1) := by decide +kernel
theorem dX4_readSort_130 : decode cX4_readSort 130 = .ok (.istore_n 3, 1) := by decide +kernel
theorem dX4_readSort_131 : decode cX4_readSort 131 = .ok (.iload_n 3, 1) := by decide +kernel
theorem dX4_readSort_132 : decode cX4_readSort 132 = .ok (.ifCond .eq 16, 3) := by decide +kernel
theorem dX4_readSort_135 : decode cX4_readSort 135 = .ok (.aload_n 0, 1) := by decide +kernel
theorem dX4_readSort_136 : decode cX4_readSort 136 = .ok (.getfield 38, 3) := by decide +kernel
theorem dX4_readSort_139 : decode cX4_readSort 139 = .ok (.dup, 1) := by decide +kernel
theorem dX4_readSort_140 : decode cX4_readSort 140 = .ok (.getfield 71, 3) := by decide +kernel
theorem dX4_readSort_143 : decode cX4_readSort 143 = .ok (.iconst 1, 1) := by decide +kernel
theorem dX4_readSort_144 : decode cX4_readSort 144 = .ok (.iadd, 1) := by decide +kernel
theorem dX4_readSort_145 : decode cX4_readSort 145 = .ok (.putfield 71, 3) := by decide +kernel
theorem dX4_readSort_148 : decode cX4_readSort 148 = .ok (.iload_n 3, 1) := by decide +kernel
theorem dX4_readSort_149 : decode cX4_readSort 149 = .ok (.ireturn, 1) := by decide +kernel
theorem dX4_readWheel_0 : decode cX4_readWheel 0 = .ok (.aload_n 0, 1) := by decide +kernel
theorem dX4_readWheel_1 : decode cX4_readWheel 1 = .ok (.getfield 38, 3) := by decide +kernel
theorem dX4_readWheel_4 : decode cX4_readWheel 4 = .ok (.getfield 77, 3) := by decide +kernel
theorem dX4_readWheel_7 : decode cX4_readWheel 7 = .ok (.istore_n 1, 1) := by decide +kernel
theorem dX4_readWheel_8 : decode cX4_readWheel 8 = .ok (.aload_n 0, 1) := by decide +kernel
theorem dX4_readWheel_9 : decode cX4_readWheel 9 = .ok (.aload_n 0, 1) := by decide +kernel
theorem dX4_readWheel_10 : decode cX4_readWheel 10 = .ok (.getfield 25, 3) := by decide +kernel
theorem dX4_readWheel_13 : decode cX4_readWheel 13 = .ok (.iconst 1, 1) := by decide +kernel
theorem dX4_readWheel_14 : decode cX4_readWheel 14 = .ok (.iadd, 1) := by decide +kernel
theorem dX4_readWheel_15 : decode cX4_readWheel 15 = .ok (.invokevirtual 59, 3) := by decide +kernel
theorem dX4_readWheel_18 : decode cX4_readWheel 18 = .ok (.iload_n 1, 1) := by decide +kernel
theorem dX4_readWheel_19 : decode cX4_readWheel 19 = .ok (.ifCond .lt 25, 3) := by decide +kernel
theorem dX4_readWheel_22 : decode cX4_readWheel 22 = .ok (.iload_n 1, 1) := by decide +kernel
theorem dX4_readWheel_23 : decode cX4_readWheel 23 = .ok (.iconst 3, 1) := by decide +kernel
theorem dX4_readWheel_24 : decode cX4_readWheel 24 = .ok (.if_icmp .ge 20, 3) := by decide +kernel
theorem dX4_readWheel_27 : decode cX4_readWheel 27 = .ok (.aload_n 0, 1) := by decide +kernel
theorem dX4_readWheel_28 : decode cX4_readWheel 28 = .ok (.iconst 0, 1) := by decide +kernel
theorem dX4_readWheel_29 : decode cX4_readWheel 29 = .ok (.aload_n 0, 1) := by decide +kernel
theorem dX4_readWheel_30 : decode cX4_readWheel 30 = .ok (.getfield 38, 3) := by decide +kernel
theorem dX4_readWheel_33 : decode cX4_readWheel 33 = .ok (.getfield 71, 3) := by decide +kernel
theorem dX4_readWheel_36 : decode cX4_readWheel 36 = .ok (.iconst 1, 1) := by decide +kernel
theorem dX4_readWheel_37 : decode cX4_readWheel 37 = .ok (.isub, 1) := by decide +kernel
theorem dX4_readWheel_38 : decode cX4_readWheel 38 = .ok (.invokevirtual 96, 3) := by decide +kernel
theorem dX4_readWheel_41 : decode cX4_readWheel 41 = .ok (.ifCond .ne 5, 3) := by decide +kernel
theorem dX4_readWheel_44 : decode cX4_readWheel 44 = .ok (.iconst 0, 1) := by decide +kernel
theorem dX4_readWheel_45 : decode cX4_readWheel 45 = .ok (.ireturn, 1) := by decide +kernel
theorem dX4_readWheel_46 : decode cX4_readWheel 46 = .ok (.aload_n 0, 1) := by decide +kernel
theorem dX4_readWheel_47 : decode cX4_readWheel 47 = .ok (.getfield 38, 3) := by decide +kernel
theorem dX4_readWheel_50 : decode cX4_readWheel 50 = .ok (.getfield 115, 3) := by decide +kernel
theorem dX4_readWheel_53 : decode cX4_readWheel 53 = .ok (.iload_n 1, 1) := by decide +kernel
theorem dX4_readWheel_54 : decode cX4_readWheel 54 = .ok (.aload_n 0, 1) := by decide +kernel
theorem dX4_readWheel_55 : decode cX4_readWheel 55 = .ok (.getfield 31, 3) := by decide +kernel
theorem dX4_readWheel_58 : decode cX4_readWheel 58 = .ok (.iastore, 1) := by decide +kernel
theorem dX4_readWheel_59 : decode cX4_readWheel 59 = .ok (.aload_n 0, 1) := by decide +kernel
theorem dX4_readWheel_60 : decode cX4_readWheel 60 = .ok (.aload_n 0, 1) := by decide +kernel
theorem dX4_readWheel_61 : decode cX4_readWheel 61 = .ok (.getfield 25, 3) := by decide +kernel
theorem dX4_readWheel_64 : decode cX4_readWheel 64 = .ok (.iconst 1, 1) := by decide +kernel
theorem dX4_readWheel_65 : decode cX4_readWheel 65 = .ok (.iadd, 1) := by decide +kernel
theorem dX4_readWheel_66 : decode cX4_readWheel 66 = .ok (.invokevirtual 59, 3) := by decide +kernel
theorem dX4_readWheel_69 : decode cX4_readWheel 69 = .ok (.aload_n 0, 1) := by decide +kernel
theorem dX4_readWheel_70 : decode cX4_readWheel 70 = .ok (.iconst 1, 1) := by decide +kernel
theorem dX4_readWheel_71 : decode cX4_readWheel 71 = .ok (.iconst 3, 1) := by decide +kernel
theorem dX4_readWheel_72 : decode cX4_readWheel 72 = .ok (.invokevirtual 96, 3) := by decide +kernel
theorem dX4_readWheel_75 : decode cX4_readWheel 75 = .ok (.ifCond .ne 5, 3) := by decide +kernel
theorem dX4_readWheel_78 : decode cX4_readWheel 78 = .ok (.iconst 0, 1) := by decide +kernel
theorem dX4_readWheel_79 : decode cX4_readWheel 79 = .ok (.ireturn, 1) := by decide +kernel
theorem dX4_readWheel_80 : decode cX4_readWheel 80 = .ok (.aload_n 0, 1) := by decide +kernel
theorem dX4_readWheel_81 : decode cX4_readWheel 81 = .ok (.getfield 38, 3) := by decide +kernel
theorem dX4_readWheel_84 : decode cX4_readWheel 84 = .ok (.getfield 118, 3) := by decide +kernel
theorem dX4_readWheel_87 : decode cX4_readWheel 87 = .ok (.iload_n 1, 1) := by decide +kernel
theorem dX4_readWheel_88 : decode cX4_readWheel 88 = .ok (.aload_n 0, 1) := by decide +kernel
theorem dX4_readWheel_89 : decode cX4_readWheel 89 = .ok (.getfield 31, 3) := by decide +kernel
theorem dX4_readWheel_92 : decode cX4_readWheel 92 = .ok (.iastore, 1) := by decide +kernel
theorem dX4_readWheel_93 : decode cX4_readWheel 93 = .ok (.aload_n 0, 1) := by decide +kernel
theorem dX4_readWheel_94 : decode cX4_readWheel 94 = .ok (.getfield 38, 3) := by decide +kernel
theorem dX4_readWheel_97 : decode cX4_readWheel 97 = .ok (.dup, 1) := by decide +kernel
theorem dX4_readWheel_98 : decode cX4_readWheel 98 = .ok (.getfield 77, 3) := by decide +kernel
theorem dX4_readWheel_101 : decode cX4_readWheel 101 = .ok (.iconst 1, 1) := by decide +kernel
theorem dX4_readWheel_102 : decode cX4_readWheel 102 = .ok (.iadd, 1) := by decide +kernel
theorem dX4_readWheel_103 : decode cX4_readWheel 103 = .ok (.putfield 77, 3) := by decide +kernel
theorem dX4_readWheel_106 : decode cX4_readWheel 106 = .ok (.aload_n 0, 1) := by decide +kernel
theorem dX4_readWheel_107 : decode cX4_readWheel 107 = .ok (.aload_n 0, 1) := by decide +kernel
theorem dX4_readWheel_108 : decode cX4_readWheel 108 = .ok (.getfield 25, 3) := by decide +kernel
theorem dX4_readWheel_111 : decode cX4_readWheel 111 = .ok (.iconst 1, 1) := by decide +kernel
theorem dX4_readWheel_112 : decode cX4_readWheel 112 = .ok (.iadd, 1) := by decide +kernel
theorem dX4_readWheel_113 : decode cX4_readWheel 113 = .ok (.invokevirtual 59, 3) := by decide +kernel
theorem dX4_readWheel_116 : decode cX4_readWheel 116 = .ok (.aload_n 0, 1) := by decide +kernel
theorem dX4_readWheel_117 : decode cX4_readWheel 117 = .ok (.iconst 2, 1) := by decide +kernel
theorem dX4_readWheel_118 : decode cX4_readWheel 118 = .ok (.invokevirtual 103, 3) := by decide +kernel
theorem dX4_readWheel_121 : decode cX4_readWheel 121 = .ok (.ireturn, 1) := by decide +kernel
theorem dX4_readOpen_0 : decode cX4_readOpen 0 = .ok (.aload_n 0, 1) := by decide +kernel
theorem dX4_readOpen_1 : decode cX4_readOpen 1 = .ok (.aload_n 0, 1) := by decide +kernel
theorem dX4_readOpen_2 : decode cX4_readOpen 2 = .ok (.getfield 25, 3) := by decide +kernel
theorem dX4_readOpen_5 : decode cX4_readOpen 5 = .ok (.iconst 1, 1) := by decide +kernel
theorem dX4_readOpen_6 : decode cX4_readOpen 6 = .ok (.iadd, 1) := by decide +kernel
theorem dX4_readOpen_7 : decode cX4_readOpen 7 = .ok (.invokevirtual 59, 3) := by decide +kernel
theorem dX4_readOpen_10 : decode cX4_readOpen 10 = .ok (.aload_n 0, 1) := by decide +kernel
theorem dX4_readOpen_11 : decode cX4_readOpen 11 = .ok (.iconst 1, 1) := by decide +kernel
theorem dX4_readOpen_12 : decode cX4_readOpen 12 = .ok (.iconst 3, 1) := by decide +kernel
theorem dX4_readOpen_13 : decode cX4_readOpen 13 = .ok (.invokevirtual 96, 3) := by decide +kernel
theorem dX4_readOpen_16 : decode cX4_readOpen 16 = .ok (.ifCond .ne 5, 3) := by decide +kernel
theorem dX4_readOpen_19 : decode cX4_readOpen 19 = .ok (.iconst 0, 1) := by decide +kernel
theorem dX4_readOpen_20 : decode cX4_readOpen 20 = .ok (.ireturn, 1) := by decide +kernel
theorem dX4_readOpen_21 : decode cX4_readOpen 21 = .ok (.aload_n 0, 1) := by decide +kernel
theorem dX4_readOpen_22 : decode cX4_readOpen 22 = .ok (.getfield 38, 3) := by decide +kernel
theorem dX4_readOpen_25 : decode cX4_readOpen 25 = .ok (.aload_n 0, 1) := by decide +kernel
theorem dX4_readOpen_26 : decode cX4_readOpen 26 = .ok (.getfield 31, 3) := by decide +kernel
theorem dX4_readOpen_29 : decode cX4_readOpen 29 = .ok (.putfield 121, 3) := by decide +kernel
theorem dX4_readOpen_32 : decode cX4_readOpen 32 = .ok (.aload_n 0, 1) := by decide +kernel
theorem dX4_readOpen_33 : decode cX4_readOpen 33 = .ok (.aload_n 0, 1) := by decide +kernel
theorem dX4_readOpen_34 : decode cX4_readOpen 34 = .ok (.getfield 25, 3) := by decide +kernel
theorem dX4_readOpen_37 : decode cX4_readOpen 37 = .ok (.iconst 1, 1) := by decide +kernel
theorem dX4_readOpen_38 : decode cX4_readOpen 38 = .ok (.iadd, 1) := by decide +kernel
theorem dX4_readOpen_39 : decode cX4_readOpen 39 = .ok (.invokevirtual 59, 3) := by decide +kernel
theorem dX4_readOpen_42 : decode cX4_readOpen 42 = .ok (.aload_n 0, 1) := by decide +kernel
theorem dX4_readOpen_43 : decode cX4_readOpen 43 = .ok (.iconst 2, 1) := by decide +kernel
theorem dX4_readOpen_44 : decode cX4_readOpen 44 = .ok (.invokevirtual 103, 3) := by decide +kernel
theorem dX4_readOpen_47 : decode cX4_readOpen 47 = .ok (.ireturn, 1) := by decide +kernel
theorem dX4_readOfWeek_0 : decode cX4_readOfWeek 0 = .ok (.aload_n 0, 1) := by decide +kernel
theorem dX4_readOfWeek_1 : decode cX4_readOfWeek 1 = .ok (.aload_n 0, 1) := by decide +kernel
theorem dX4_readOfWeek_2 : decode cX4_readOfWeek 2 = .ok (.getfield 25, 3) := by decide +kernel
theorem dX4_readOfWeek_5 : decode cX4_readOfWeek 5 = .ok (.iconst 1, 1) := by decide +kernel
theorem dX4_readOfWeek_6 : decode cX4_readOfWeek 6 = .ok (.iadd, 1) := by decide +kernel
theorem dX4_readOfWeek_7 : decode cX4_readOfWeek 7 = .ok (.invokevirtual 59, 3) := by decide +kernel
theorem dX4_readOfWeek_10 : decode cX4_readOfWeek 10 = .ok (.aload_n 0, 1) := by decide +kernel
theorem dX4_readOfWeek_11 : decode cX4_readOfWeek 11 = .ok (.iconst 0, 1) := by decide +kernel
theorem dX4_readOfWeek_12 : decode cX4_readOfWeek 12 = .ok (.bipush 7, 2) := by decide +kernel
theorem dX4_readOfWeek_14 : decode cX4_readOfWeek 14 = .ok (.invokevirtual 96, 3) := by decide +kernel
theorem dX4_readOfWeek_17 : decode cX4_readOfWeek 17 = .ok (.ifCond .ne 5, 3) := by decide +kernel
theorem dX4_readOfWeek_20 : decode cX4_readOfWeek 20 = .ok (.iconst 0, 1) := by decide +kernel
theorem dX4_readOfWeek_21 : decode cX4_readOfWeek 21 = .ok (.ireturn, 1) := by decide +kernel
theorem dX4_readOfWeek_22 : decode cX4_readOfWeek 22 = .ok (.aload_n 0, 1) := by decide +kernel
theorem dX4_readOfWeek_23 : decode cX4_readOfWeek 23 = .ok (.getfield 31, 3) := by decide +kernel
theorem dX4_readOfWeek_26 : decode cX4_readOfWeek 26 = .ok (.istore_n 3, 1) := by decide +kernel
theorem dX4_readOfWeek_27 : decode cX4_readOfWeek 27 = .ok (.aload_n 0, 1) := by decide +kernel
theorem dX4_readOfWeek_28 : decode cX4_readOfWeek 28 = .ok (.aload_n 0, 1) := by decide +kernel
theorem dX4_readOfWeek_29 : decode cX4_readOfWeek 29 = .ok (.getfield 25, 3) := by decide +kernel
theorem dX4_readOfWeek_32 : decode cX4_readOfWeek 32 = .ok (.iconst 1, 1) := by decide +kernel
theorem dX4_readOfWeek_33 : decode cX4_readOfWeek 33 = .ok (.iadd, 1) := by decide +kernel
theorem dX4_readOfWeek_34 : decode cX4_readOfWeek 34 = .ok (.invokevirtual 59, 3) := by decide +kernel
theorem dX4_readOfWeek_37 : decode cX4_readOfWeek 37 = .ok (.aload_n 0, 1) := by decide +kernel
theorem dX4_readOfWeek_38 : decode cX4_readOfWeek 38 = .ok (.iconst 0, 1) := by decide +kernel
theorem dX4_readOfWeek_39 : decode cX4_readOfWeek 39 = .ok (.iload_n 2, 1) := by decide +kernel
theorem dX4_readOfWeek_40 : decode cX4_readOfWeek 40 = .ok (.invokevirtual 96, 3) := by decide +kernel
theorem dX4_readOfWeek_43 : decode cX4_readOfWeek 43 = .ok (.ifCond .eq 13, 3) := by decide +kernel
theorem dX4_readOfWeek_46 : decode cX4_readOfWeek 46 = .ok (.iload_n 3, 1) := by decide +kernel
theorem dX4_readOfWeek_47 : decode cX4_readOfWeek 47 = .ok (.ifCond .lt 9, 3) := by decide +kernel
theorem dX4_readOfWeek_50 : decode cX4_readOfWeek 50 = .ok (.iload_n 3, 1) := by decide +kernel
theorem dX4_readOfWeek_51 : decode cX4_readOfWeek 51 = .ok (.aload_n 1, 1) := by decide +kernel
theorem dX4_readOfWeek_52 : decode cX4_readOfWeek 52 = .ok (.arraylength, 1) := by decide +kernel
theorem dX4_readOfWeek_53 : decode cX4_readOfWeek 53 = .ok (.if_icmp .lt 5, 3) := by decide +kernel
theorem dX4_readOfWeek_56 : decode cX4_readOfWeek 56 = .ok (.iconst 0, 1) := by decide +kernel
theorem dX4_readOfWeek_57 : decode cX4_readOfWeek 57 = .ok (.ireturn, 1) := by decide +kernel
theorem dX4_readOfWeek_58 : decode cX4_readOfWeek 58 = .ok (.aload_n 1, 1) := by decide +kernel
theorem dX4_readOfWeek_59 : decode cX4_readOfWeek 59 = .ok (.iload_n 3, 1) := by decide +kernel
theorem dX4_readOfWeek_60 : decode cX4_readOfWeek 60 = .ok (.aload_n 0, 1) := by decide +kernel
theorem dX4_readOfWeek_61 : decode cX4_readOfWeek 61 = .ok (.getfield 31, 3) := by decide +kernel
theorem dX4_readOfWeek_64 : decode cX4_readOfWeek 64 = .ok (.iastore, 1) := by decide +kernel
theorem dX4_readOfWeek_65 : decode cX4_readOfWeek 65 = .ok (.aload_n 0, 1) := by decide +kernel
theorem dX4_readOfWeek_66 : decode cX4_readOfWeek 66 = .ok (.aload_n 0, 1) := by decide +kernel
theorem dX4_readOfWeek_67 : decode cX4_readOfWeek 67 = .ok (.getfield 25, 3) := by decide +kernel
theorem dX4_readOfWeek_70 : decode cX4_readOfWeek 70 = .ok (.iconst 1, 1) := by decide +kernel
theorem dX4_readOfWeek_71 : decode cX4_readOfWeek 71 = .ok (.iadd, 1) := by decide +kernel
theorem dX4_readOfWeek_72 : decode cX4_readOfWeek 72 = .ok (.invokevirtual 59, 3) := by decide +kernel
theorem dX4_readOfWeek_75 : decode cX4_readOfWeek 75 = .ok (.aload_n 0, 1) := by decide +kernel
theorem dX4_readOfWeek_76 : decode cX4_readOfWeek 76 = .ok (.iconst 2, 1) := by decide +kernel
theorem dX4_readOfWeek_77 : decode cX4_readOfWeek 77 = .ok (.invokevirtual 103, 3) := by decide +kernel
theorem dX4_readOfWeek_80 : decode cX4_readOfWeek 80 = .ok (.ireturn, 1) := by decide +kernel
theorem dX4_takeRow_0 : decode cX4_takeRow 0 = .ok (.iload_n 2, 1) := by decide +kernel
theorem dX4_takeRow_1 : decode cX4_takeRow 1 = .ok (.istore 5, 2) := by decide +kernel
theorem dX4_takeRow_3 : decode cX4_takeRow 3 = .ok (.iload 5, 2) := by decide +kernel
theorem dX4_takeRow_5 : decode cX4_takeRow 5 = .ok (.iload_n 3, 1) := by decide +kernel
theorem dX4_takeRow_6 : decode cX4_takeRow 6 = .ok (.if_icmp .ge 51, 3) := by decide +kernel
theorem dX4_takeRow_9 : decode cX4_takeRow 9 = .ok (.iload 5, 2) := by decide +kernel
theorem dX4_takeRow_11 : decode cX4_takeRow 11 = .ok (.ifCond .lt 46, 3) := by decide +kernel
theorem dX4_takeRow_14 : decode cX4_takeRow 14 = .ok (.iload 5, 2) := by decide +kernel
theorem dX4_takeRow_16 : decode cX4_takeRow 16 = .ok (.aload_n 1, 1) := by decide +kernel
theorem dX4_takeRow_17 : decode cX4_takeRow 17 = .ok (.arraylength, 1) := by decide +kernel
theorem dX4_takeRow_18 : decode cX4_takeRow 18 = .ok (.if_icmp .ge 39, 3) := by decide +kernel
theorem dX4_takeRow_21 : decode cX4_takeRow 21 = .ok (.aload_n 0, 1) := by decide +kernel
theorem dX4_takeRow_22 : decode cX4_takeRow 22 = .ok (.iconst 0, 1) := by decide +kernel
theorem dX4_takeRow_23 : decode cX4_takeRow 23 = .ok (.iload 4, 2) := by decide +kernel
theorem dX4_takeRow_25 : decode cX4_takeRow 25 = .ok (.invokevirtual 96, 3) := by decide +kernel
theorem dX4_takeRow_28 : decode cX4_takeRow 28 = .ok (.ifCond .ne 5, 3) := by decide +kernel
theorem dX4_takeRow_31 : decode cX4_takeRow 31 = .ok (.iconst 0, 1) := by decide +kernel
theorem dX4_takeRow_32 : decode cX4_takeRow 32 = .ok (.ireturn, 1) := by decide +kernel
theorem dX4_takeRow_33 : decode cX4_takeRow 33 = .ok (.aload_n 1, 1) := by decide +kernel
theorem dX4_takeRow_34 : decode cX4_takeRow 34 = .ok (.iload 5, 2) := by decide +kernel
theorem dX4_takeRow_36 : decode cX4_takeRow 36 = .ok (.aload_n 0, 1) := by decide +kernel
theorem dX4_takeRow_37 : decode cX4_takeRow 37 = .ok (.getfield 31, 3) := by decide +kernel
theorem dX4_takeRow_40 : decode cX4_takeRow 40 = .ok (.iastore, 1) := by decide +kernel
theorem dX4_takeRow_41 : decode cX4_takeRow 41 = .ok (.aload_n 0, 1) := by decide +kernel
theorem dX4_takeRow_42 : decode cX4_takeRow 42 = .ok (.aload_n 0, 1) := by decide +kernel
theorem dX4_takeRow_43 : decode cX4_takeRow 43 = .ok (.getfield 25, 3) := by decide +kernel
theorem dX4_takeRow_46 : decode cX4_takeRow 46 = .ok (.iconst 1, 1) := by decide +kernel
theorem dX4_takeRow_47 : decode cX4_takeRow 47 = .ok (.iadd, 1) := by decide +kernel
theorem dX4_takeRow_48 : decode cX4_takeRow 48 = .ok (.invokevirtual 59, 3) := by decide +kernel
theorem dX4_takeRow_51 : decode cX4_takeRow 51 = .ok (.iinc 5 1, 3) := by decide +kernel
theorem dX4_takeRow_54 : decode cX4_takeRow 54 = .ok (.goto (-51), 3) := by decide +kernel
theorem dX4_takeRow_57 : decode cX4_takeRow 57 = .ok (.iconst 1, 1) := by decide +kernel
theorem dX4_takeRow_58 : decode cX4_takeRow 58 = .ok (.ireturn, 1) := by decide +kernel
theorem dX4_isNumber_0 : decode cX4_isNumber 0 = .ok (.aload_n 0, 1) := by decide +kernel
theorem dX4_isNumber_1 : decode cX4_isNumber 1 = .ok (.getfield 28, 3) := by decide +kernel
theorem dX4_isNumber_4 : decode cX4_isNumber 4 = .ok (.iconst 1, 1) := by decide +kernel
theorem dX4_isNumber_5 : decode cX4_isNumber 5 = .ok (.if_icmp .ne 23, 3) := by decide +kernel
theorem dX4_isNumber_8 : decode cX4_isNumber 8 = .ok (.aload_n 0, 1) := by decide +kernel
theorem dX4_isNumber_9 : decode cX4_isNumber 9 = .ok (.getfield 31, 3) := by decide +kernel
theorem dX4_isNumber_12 : decode cX4_isNumber 12 = .ok (.iload_n 1, 1) := by decide +kernel
theorem dX4_isNumber_13 : decode cX4_isNumber 13 = .ok (.if_icmp .lt 15, 3) := by decide +kernel
theorem dX4_isNumber_16 : decode cX4_isNumber 16 = .ok (.aload_n 0, 1) := by decide +kernel
theorem dX4_isNumber_17 : decode cX4_isNumber 17 = .ok (.getfield 31, 3) := by decide +kernel
theorem dX4_isNumber_20 : decode cX4_isNumber 20 = .ok (.iload_n 2, 1) := by decide +kernel
theorem dX4_isNumber_21 : decode cX4_isNumber 21 = .ok (.if_icmp .gt 7, 3) := by decide +kernel
theorem dX4_isNumber_24 : decode cX4_isNumber 24 = .ok (.iconst 1, 1) := by decide +kernel
theorem dX4_isNumber_25 : decode cX4_isNumber 25 = .ok (.goto 4, 3) := by decide +kernel
theorem dX4_isNumber_28 : decode cX4_isNumber 28 = .ok (.iconst 0, 1) := by decide +kernel
theorem dX4_isNumber_29 : decode cX4_isNumber 29 = .ok (.ireturn, 1) := by decide +kernel
theorem dX4_take_0 : decode cX4_take 0 = .ok (.aload_n 0, 1) := by decide +kernel
theorem dX4_take_1 : decode cX4_take 1 = .ok (.getfield 28, 3) := by decide +kernel
theorem dX4_take_4 : decode cX4_take 4 = .ok (.iload_n 1, 1) := by decide +kernel
theorem dX4_take_5 : decode cX4_take 5 = .ok (.if_icmp .eq 5, 3) := by decide +kernel
theorem dX4_take_8 : decode cX4_take 8 = .ok (.iconst 0, 1) := by decide +kernel
theorem dX4_take_9 : decode cX4_take 9 = .ok (.ireturn, 1) := by decide +kernel
theorem dX4_take_10 : decode cX4_take 10 = .ok (.aload_n 0, 1) := by decide +kernel
theorem dX4_take_11 : decode cX4_take 11 = .ok (.aload_n 0, 1) := by decide +kernel
theorem dX4_take_12 : decode cX4_take 12 = .ok (.getfield 25, 3) := by decide +kernel
theorem dX4_take_15 : decode cX4_take 15 = .ok (.iconst 1, 1) := by decide +kernel
theorem dX4_take_16 : decode cX4_take 16 = .ok (.iadd, 1) := by decide +kernel
theorem dX4_take_17 : decode cX4_take 17 = .ok (.invokevirtual 59, 3) := by decide +kernel
theorem dX4_take_20 : decode cX4_take 20 = .ok (.iconst 1, 1) := by decide +kernel
theorem dX4_take_21 : decode cX4_take 21 = .ok (.ireturn, 1) := by decide +kernel
theorem dX4_cutUp_0 : decode cX4_cutUp 0 = .ok (.iconst 0, 1) := by decide +kernel
theorem dX4_cutUp_1 : decode cX4_cutUp 1 = .ok (.istore_n 1, 1) := by decide +kernel
theorem dX4_cutUp_2 : decode cX4_cutUp 2 = .ok (.iconst 0, 1) := by decide +kernel
end
section
theorem dX4_cutUp_3 : decode cX4_cutUp 3 = .ok (.istore_n 2, 1) := by decide +kernel
theorem dX4_cutUp_4 : decode cX4_cutUp 4 = .ok (.iconst 0, 1) := by decide +kernel
theorem dX4_cutUp_5 : decode cX4_cutUp 5 = .ok (.istore_n 3, 1) := by decide +kernel
theorem dX4_cutUp_6 : decode cX4_cutUp 6 = .ok (.iload_n 3, 1) := by decide +kernel
theorem dX4_cutUp_7 : decode cX4_cutUp 7 = .ok (.sipush 400, 3) := by decide +kernel
theorem dX4_cutUp_10 : decode cX4_cutUp 10 = .ok (.if_icmp .ge 102, 3) := by decide +kernel
theorem dX4_cutUp_13 : decode cX4_cutUp 13 = .ok (.iload_n 2, 1) := by decide +kernel
theorem dX4_cutUp_14 : decode cX4_cutUp 14 = .ok (.aload_n 0, 1) := by decide +kernel
theorem dX4_cutUp_15 : decode cX4_cutUp 15 = .ok (.getfield 21, 3) := by decide +kernel
theorem dX4_cutUp_18 : decode cX4_cutUp 18 = .ok (.if_icmp .ge 94, 3) := by decide +kernel
theorem dX4_cutUp_21 : decode cX4_cutUp 21 = .ok (.iload_n 2, 1) := by decide +kernel
theorem dX4_cutUp_22 : decode cX4_cutUp 22 = .ok (.aload_n 0, 1) := by decide +kernel
theorem dX4_cutUp_23 : decode cX4_cutUp 23 = .ok (.getfield 34, 3) := by decide +kernel
theorem dX4_cutUp_26 : decode cX4_cutUp 26 = .ok (.arraylength, 1) := by decide +kernel
theorem dX4_cutUp_27 : decode cX4_cutUp 27 = .ok (.if_icmp .ge 85, 3) := by decide +kernel
theorem dX4_cutUp_30 : decode cX4_cutUp 30 = .ok (.iload_n 2, 1) := by decide +kernel
theorem dX4_cutUp_31 : decode cX4_cutUp 31 = .ok (.iconst 1, 1) := by decide +kernel
theorem dX4_cutUp_32 : decode cX4_cutUp 32 = .ok (.iadd, 1) := by decide +kernel
theorem dX4_cutUp_33 : decode cX4_cutUp 33 = .ok (.istore 4, 2) := by decide +kernel
theorem dX4_cutUp_35 : decode cX4_cutUp 35 = .ok (.aload_n 0, 1) := by decide +kernel
theorem dX4_cutUp_36 : decode cX4_cutUp 36 = .ok (.getfield 34, 3) := by decide +kernel
theorem dX4_cutUp_39 : decode cX4_cutUp 39 = .ok (.iload_n 2, 1) := by decide +kernel
theorem dX4_cutUp_40 : decode cX4_cutUp 40 = .ok (.baload, 1) := by decide +kernel
theorem dX4_cutUp_41 : decode cX4_cutUp 41 = .ok (.bipush 32, 2) := by decide +kernel
theorem dX4_cutUp_43 : decode cX4_cutUp 43 = .ok (.if_icmp .eq 60, 3) := by decide +kernel
theorem dX4_cutUp_46 : decode cX4_cutUp 46 = .ok (.aload_n 0, 1) := by decide +kernel
theorem dX4_cutUp_47 : decode cX4_cutUp 47 = .ok (.iload_n 2, 1) := by decide +kernel
theorem dX4_cutUp_48 : decode cX4_cutUp 48 = .ok (.invokevirtual 124, 3) := by decide +kernel
theorem dX4_cutUp_51 : decode cX4_cutUp 51 = .ok (.istore 4, 2) := by decide +kernel
theorem dX4_cutUp_53 : decode cX4_cutUp 53 = .ok (.aload_n 0, 1) := by decide +kernel
theorem dX4_cutUp_54 : decode cX4_cutUp 54 = .ok (.getfield 9, 3) := by decide +kernel
theorem dX4_cutUp_57 : decode cX4_cutUp 57 = .ok (.iload_n 1, 1) := by decide +kernel
theorem dX4_cutUp_58 : decode cX4_cutUp 58 = .ok (.aload_n 0, 1) := by decide +kernel
theorem dX4_cutUp_59 : decode cX4_cutUp 59 = .ok (.iload_n 2, 1) := by decide +kernel
theorem dX4_cutUp_60 : decode cX4_cutUp 60 = .ok (.iload 4, 2) := by decide +kernel
theorem dX4_cutUp_62 : decode cX4_cutUp 62 = .ok (.invokevirtual 128, 3) := by decide +kernel
theorem dX4_cutUp_65 : decode cX4_cutUp 65 = .ok (.iastore, 1) := by decide +kernel
theorem dX4_cutUp_66 : decode cX4_cutUp 66 = .ok (.aload_n 0, 1) := by decide +kernel
theorem dX4_cutUp_67 : decode cX4_cutUp 67 = .ok (.getfield 15, 3) := by decide +kernel
theorem dX4_cutUp_70 : decode cX4_cutUp 70 = .ok (.iload_n 1, 1) := by decide +kernel
theorem dX4_cutUp_71 : decode cX4_cutUp 71 = .ok (.aload_n 0, 1) := by decide +kernel
theorem dX4_cutUp_72 : decode cX4_cutUp 72 = .ok (.getfield 9, 3) := by decide +kernel
theorem dX4_cutUp_75 : decode cX4_cutUp 75 = .ok (.iload_n 1, 1) := by decide +kernel
theorem dX4_cutUp_76 : decode cX4_cutUp 76 = .ok (.iaload, 1) := by decide +kernel
theorem dX4_cutUp_77 : decode cX4_cutUp 77 = .ok (.iconst 1, 1) := by decide +kernel
theorem dX4_cutUp_78 : decode cX4_cutUp 78 = .ok (.if_icmp .ne 13, 3) := by decide +kernel
theorem dX4_cutUp_81 : decode cX4_cutUp 81 = .ok (.aload_n 0, 1) := by decide +kernel
theorem dX4_cutUp_82 : decode cX4_cutUp 82 = .ok (.iload_n 2, 1) := by decide +kernel
theorem dX4_cutUp_83 : decode cX4_cutUp 83 = .ok (.iload 4, 2) := by decide +kernel
theorem dX4_cutUp_85 : decode cX4_cutUp 85 = .ok (.invokevirtual 131, 3) := by decide +kernel
theorem dX4_cutUp_88 : decode cX4_cutUp 88 = .ok (.goto 4, 3) := by decide +kernel
theorem dX4_cutUp_91 : decode cX4_cutUp 91 = .ok (.iconst 0, 1) := by decide +kernel
theorem dX4_cutUp_92 : decode cX4_cutUp 92 = .ok (.iastore, 1) := by decide +kernel
theorem dX4_cutUp_93 : decode cX4_cutUp 93 = .ok (.aload_n 0, 1) := by decide +kernel
theorem dX4_cutUp_94 : decode cX4_cutUp 94 = .ok (.getfield 18, 3) := by decide +kernel
theorem dX4_cutUp_97 : decode cX4_cutUp 97 = .ok (.iload_n 1, 1) := by decide +kernel
theorem dX4_cutUp_98 : decode cX4_cutUp 98 = .ok (.iload_n 2, 1) := by decide +kernel
theorem dX4_cutUp_99 : decode cX4_cutUp 99 = .ok (.iastore, 1) := by decide +kernel
theorem dX4_cutUp_100 : decode cX4_cutUp 100 = .ok (.iinc 1 1, 3) := by decide +kernel
theorem dX4_cutUp_103 : decode cX4_cutUp 103 = .ok (.iload 4, 2) := by decide +kernel
theorem dX4_cutUp_105 : decode cX4_cutUp 105 = .ok (.istore_n 2, 1) := by decide +kernel
theorem dX4_cutUp_106 : decode cX4_cutUp 106 = .ok (.iinc 3 1, 3) := by decide +kernel
theorem dX4_cutUp_109 : decode cX4_cutUp 109 = .ok (.goto (-103), 3) := by decide +kernel
theorem dX4_cutUp_112 : decode cX4_cutUp 112 = .ok (.aload_n 0, 1) := by decide +kernel
theorem dX4_cutUp_113 : decode cX4_cutUp 113 = .ok (.getfield 9, 3) := by decide +kernel
theorem dX4_cutUp_116 : decode cX4_cutUp 116 = .ok (.iload_n 1, 1) := by decide +kernel
theorem dX4_cutUp_117 : decode cX4_cutUp 117 = .ok (.iconst 0, 1) := by decide +kernel
theorem dX4_cutUp_118 : decode cX4_cutUp 118 = .ok (.iastore, 1) := by decide +kernel
theorem dX4_cutUp_119 : decode cX4_cutUp 119 = .ok (.aload_n 0, 1) := by decide +kernel
theorem dX4_cutUp_120 : decode cX4_cutUp 120 = .ok (.getfield 18, 3) := by decide +kernel
theorem dX4_cutUp_123 : decode cX4_cutUp 123 = .ok (.iload_n 1, 1) := by decide +kernel
theorem dX4_cutUp_124 : decode cX4_cutUp 124 = .ok (.aload_n 0, 1) := by decide +kernel
theorem dX4_cutUp_125 : decode cX4_cutUp 125 = .ok (.getfield 21, 3) := by decide +kernel
theorem dX4_cutUp_128 : decode cX4_cutUp 128 = .ok (.iastore, 1) := by decide +kernel
theorem dX4_cutUp_129 : decode cX4_cutUp 129 = .ok (.return_, 1) := by decide +kernel
theorem dX4_isBetween_0 : decode cX4_isBetween 0 = .ok (.iload_n 1, 1) := by decide +kernel
theorem dX4_isBetween_1 : decode cX4_isBetween 1 = .ok (.ifCond .lt 36, 3) := by decide +kernel
theorem dX4_isBetween_4 : decode cX4_isBetween 4 = .ok (.iload_n 1, 1) := by decide +kernel
theorem dX4_isBetween_5 : decode cX4_isBetween 5 = .ok (.aload_n 0, 1) := by decide +kernel
theorem dX4_isBetween_6 : decode cX4_isBetween 6 = .ok (.getfield 34, 3) := by decide +kernel
theorem dX4_isBetween_9 : decode cX4_isBetween 9 = .ok (.arraylength, 1) := by decide +kernel
theorem dX4_isBetween_10 : decode cX4_isBetween 10 = .ok (.if_icmp .ge 27, 3) := by decide +kernel
theorem dX4_isBetween_13 : decode cX4_isBetween 13 = .ok (.aload_n 0, 1) := by decide +kernel
theorem dX4_isBetween_14 : decode cX4_isBetween 14 = .ok (.getfield 34, 3) := by decide +kernel
theorem dX4_isBetween_17 : decode cX4_isBetween 17 = .ok (.iload_n 1, 1) := by decide +kernel
theorem dX4_isBetween_18 : decode cX4_isBetween 18 = .ok (.baload, 1) := by decide +kernel
theorem dX4_isBetween_19 : decode cX4_isBetween 19 = .ok (.iload_n 2, 1) := by decide +kernel
theorem dX4_isBetween_20 : decode cX4_isBetween 20 = .ok (.if_icmp .lt 17, 3) := by decide +kernel
theorem dX4_isBetween_23 : decode cX4_isBetween 23 = .ok (.aload_n 0, 1) := by decide +kernel
theorem dX4_isBetween_24 : decode cX4_isBetween 24 = .ok (.getfield 34, 3) := by decide +kernel
theorem dX4_isBetween_27 : decode cX4_isBetween 27 = .ok (.iload_n 1, 1) := by decide +kernel
theorem dX4_isBetween_28 : decode cX4_isBetween 28 = .ok (.baload, 1) := by decide +kernel
theorem dX4_isBetween_29 : decode cX4_isBetween 29 = .ok (.iload_n 3, 1) := by decide +kernel
theorem dX4_isBetween_30 : decode cX4_isBetween 30 = .ok (.if_icmp .gt 7, 3) := by decide +kernel
theorem dX4_isBetween_33 : decode cX4_isBetween 33 = .ok (.iconst 1, 1) := by decide +kernel
theorem dX4_isBetween_34 : decode cX4_isBetween 34 = .ok (.goto 4, 3) := by decide +kernel
theorem dX4_isBetween_37 : decode cX4_isBetween 37 = .ok (.iconst 0, 1) := by decide +kernel
theorem dX4_isBetween_38 : decode cX4_isBetween 38 = .ok (.ireturn, 1) := by decide +kernel
theorem dX4_endOfToken_0 : decode cX4_endOfToken 0 = .ok (.aload_n 0, 1) := by decide +kernel
theorem dX4_endOfToken_1 : decode cX4_endOfToken 1 = .ok (.iload_n 1, 1) := by decide +kernel
theorem dX4_endOfToken_2 : decode cX4_endOfToken 2 = .ok (.bipush 97, 2) := by decide +kernel
theorem dX4_endOfToken_4 : decode cX4_endOfToken 4 = .ok (.bipush 122, 2) := by decide +kernel
theorem dX4_endOfToken_6 : decode cX4_endOfToken 6 = .ok (.invokevirtual 134, 3) := by decide +kernel
theorem dX4_endOfToken_9 : decode cX4_endOfToken 9 = .ok (.istore_n 2, 1) := by decide +kernel
theorem dX4_endOfToken_10 : decode cX4_endOfToken 10 = .ok (.aload_n 0, 1) := by decide +kernel
theorem dX4_endOfToken_11 : decode cX4_endOfToken 11 = .ok (.iload_n 1, 1) := by decide +kernel
theorem dX4_endOfToken_12 : decode cX4_endOfToken 12 = .ok (.bipush 48, 2) := by decide +kernel
theorem dX4_endOfToken_14 : decode cX4_endOfToken 14 = .ok (.bipush 57, 2) := by decide +kernel
theorem dX4_endOfToken_16 : decode cX4_endOfToken 16 = .ok (.invokevirtual 134, 3) := by decide +kernel
theorem dX4_endOfToken_19 : decode cX4_endOfToken 19 = .ok (.istore_n 3, 1) := by decide +kernel
theorem dX4_endOfToken_20 : decode cX4_endOfToken 20 = .ok (.iload_n 1, 1) := by decide +kernel
theorem dX4_endOfToken_21 : decode cX4_endOfToken 21 = .ok (.iconst 1, 1) := by decide +kernel
theorem dX4_endOfToken_22 : decode cX4_endOfToken 22 = .ok (.iadd, 1) := by decide +kernel
theorem dX4_endOfToken_23 : decode cX4_endOfToken 23 = .ok (.istore 4, 2) := by decide +kernel
theorem dX4_endOfToken_25 : decode cX4_endOfToken 25 = .ok (.iload 4, 2) := by decide +kernel
theorem dX4_endOfToken_27 : decode cX4_endOfToken 27 = .ok (.aload_n 0, 1) := by decide +kernel
theorem dX4_endOfToken_28 : decode cX4_endOfToken 28 = .ok (.getfield 21, 3) := by decide +kernel
theorem dX4_endOfToken_31 : decode cX4_endOfToken 31 = .ok (.if_icmp .ge 43, 3) := by decide +kernel
theorem dX4_endOfToken_34 : decode cX4_endOfToken 34 = .ok (.iload_n 2, 1) := by decide +kernel
theorem dX4_endOfToken_35 : decode cX4_endOfToken 35 = .ok (.ifCond .eq 16, 3) := by decide +kernel
theorem dX4_endOfToken_38 : decode cX4_endOfToken 38 = .ok (.aload_n 0, 1) := by decide +kernel
theorem dX4_endOfToken_39 : decode cX4_endOfToken 39 = .ok (.iload 4, 2) := by decide +kernel
theorem dX4_endOfToken_41 : decode cX4_endOfToken 41 = .ok (.bipush 97, 2) := by decide +kernel
theorem dX4_endOfToken_43 : decode cX4_endOfToken 43 = .ok (.bipush 122, 2) := by decide +kernel
theorem dX4_endOfToken_45 : decode cX4_endOfToken 45 = .ok (.invokevirtual 134, 3) := by decide +kernel
theorem dX4_endOfToken_48 : decode cX4_endOfToken 48 = .ok (.ifCond .ne 20, 3) := by decide +kernel
theorem dX4_endOfToken_51 : decode cX4_endOfToken 51 = .ok (.iload_n 3, 1) := by decide +kernel
theorem dX4_endOfToken_52 : decode cX4_endOfToken 52 = .ok (.ifCond .eq 22, 3) := by decide +kernel
theorem dX4_endOfToken_55 : decode cX4_endOfToken 55 = .ok (.aload_n 0, 1) := by decide +kernel
theorem dX4_endOfToken_56 : decode cX4_endOfToken 56 = .ok (.iload 4, 2) := by decide +kernel
theorem dX4_endOfToken_58 : decode cX4_endOfToken 58 = .ok (.bipush 48, 2) := by decide +kernel
theorem dX4_endOfToken_60 : decode cX4_endOfToken 60 = .ok (.bipush 57, 2) := by decide +kernel
theorem dX4_endOfToken_62 : decode cX4_endOfToken 62 = .ok (.invokevirtual 134, 3) := by decide +kernel
theorem dX4_endOfToken_65 : decode cX4_endOfToken 65 = .ok (.ifCond .eq 9, 3) := by decide +kernel
theorem dX4_endOfToken_68 : decode cX4_endOfToken 68 = .ok (.iinc 4 1, 3) := by decide +kernel
theorem dX4_endOfToken_71 : decode cX4_endOfToken 71 = .ok (.goto (-46), 3) := by decide +kernel
theorem dX4_endOfToken_74 : decode cX4_endOfToken 74 = .ok (.iload 4, 2) := by decide +kernel
theorem dX4_endOfToken_76 : decode cX4_endOfToken 76 = .ok (.ireturn, 1) := by decide +kernel
theorem dX4_tokenOf_0 : decode cX4_tokenOf 0 = .ok (.aload_n 0, 1) := by decide +kernel
theorem dX4_tokenOf_1 : decode cX4_tokenOf 1 = .ok (.iload_n 1, 1) := by decide +kernel
theorem dX4_tokenOf_2 : decode cX4_tokenOf 2 = .ok (.bipush 97, 2) := by decide +kernel
theorem dX4_tokenOf_4 : decode cX4_tokenOf 4 = .ok (.bipush 122, 2) := by decide +kernel
theorem dX4_tokenOf_6 : decode cX4_tokenOf 6 = .ok (.invokevirtual 134, 3) := by decide +kernel
theorem dX4_tokenOf_9 : decode cX4_tokenOf 9 = .ok (.ifCond .eq 10, 3) := by decide +kernel
theorem dX4_tokenOf_12 : decode cX4_tokenOf 12 = .ok (.aload_n 0, 1) := by decide +kernel
theorem dX4_tokenOf_13 : decode cX4_tokenOf 13 = .ok (.iload_n 1, 1) := by decide +kernel
theorem dX4_tokenOf_14 : decode cX4_tokenOf 14 = .ok (.iload_n 2, 1) := by decide +kernel
theorem dX4_tokenOf_15 : decode cX4_tokenOf 15 = .ok (.invokevirtual 138, 3) := by decide +kernel
theorem dX4_tokenOf_18 : decode cX4_tokenOf 18 = .ok (.ireturn, 1) := by decide +kernel
theorem dX4_tokenOf_19 : decode cX4_tokenOf 19 = .ok (.aload_n 0, 1) := by decide +kernel
theorem dX4_tokenOf_20 : decode cX4_tokenOf 20 = .ok (.iload_n 1, 1) := by decide +kernel
theorem dX4_tokenOf_21 : decode cX4_tokenOf 21 = .ok (.bipush 59, 2) := by decide +kernel
theorem dX4_tokenOf_23 : decode cX4_tokenOf 23 = .ok (.bipush 59, 2) := by decide +kernel
theorem dX4_tokenOf_25 : decode cX4_tokenOf 25 = .ok (.invokevirtual 134, 3) := by decide +kernel
theorem dX4_tokenOf_28 : decode cX4_tokenOf 28 = .ok (.ifCond .eq 5, 3) := by decide +kernel
theorem dX4_tokenOf_31 : decode cX4_tokenOf 31 = .ok (.iconst 2, 1) := by decide +kernel
theorem dX4_tokenOf_32 : decode cX4_tokenOf 32 = .ok (.ireturn, 1) := by decide +kernel
theorem dX4_tokenOf_33 : decode cX4_tokenOf 33 = .ok (.iload_n 2, 1) := by decide +kernel
theorem dX4_tokenOf_34 : decode cX4_tokenOf 34 = .ok (.iload_n 1, 1) := by decide +kernel
theorem dX4_tokenOf_35 : decode cX4_tokenOf 35 = .ok (.isub, 1) := by decide +kernel
theorem dX4_tokenOf_36 : decode cX4_tokenOf 36 = .ok (.iconst 1, 1) := by decide +kernel
theorem dX4_tokenOf_37 : decode cX4_tokenOf 37 = .ok (.if_icmp .le 19, 3) := by decide +kernel
theorem dX4_tokenOf_40 : decode cX4_tokenOf 40 = .ok (.aload_n 0, 1) := by decide +kernel
theorem dX4_tokenOf_41 : decode cX4_tokenOf 41 = .ok (.iload_n 1, 1) := by decide +kernel
theorem dX4_tokenOf_42 : decode cX4_tokenOf 42 = .ok (.bipush 48, 2) := by decide +kernel
theorem dX4_tokenOf_44 : decode cX4_tokenOf 44 = .ok (.bipush 48, 2) := by decide +kernel
theorem dX4_tokenOf_46 : decode cX4_tokenOf 46 = .ok (.invokevirtual 134, 3) := by decide +kernel
theorem dX4_tokenOf_49 : decode cX4_tokenOf 49 = .ok (.ifCond .eq 7, 3) := by decide +kernel
theorem dX4_tokenOf_52 : decode cX4_tokenOf 52 = .ok (.iconst 1, 1) := by decide +kernel
theorem dX4_tokenOf_53 : decode cX4_tokenOf 53 = .ok (.goto 4, 3) := by decide +kernel
theorem dX4_tokenOf_56 : decode cX4_tokenOf 56 = .ok (.iconst 0, 1) := by decide +kernel
theorem dX4_tokenOf_57 : decode cX4_tokenOf 57 = .ok (.istore_n 3, 1) := by decide +kernel
theorem dX4_tokenOf_58 : decode cX4_tokenOf 58 = .ok (.aload_n 0, 1) := by decide +kernel
theorem dX4_tokenOf_59 : decode cX4_tokenOf 59 = .ok (.iload_n 1, 1) := by decide +kernel
theorem dX4_tokenOf_60 : decode cX4_tokenOf 60 = .ok (.bipush 48, 2) := by decide +kernel
theorem dX4_tokenOf_62 : decode cX4_tokenOf 62 = .ok (.bipush 57, 2) := by decide +kernel
theorem dX4_tokenOf_64 : decode cX4_tokenOf 64 = .ok (.invokevirtual 134, 3) := by decide +kernel
theorem dX4_tokenOf_67 : decode cX4_tokenOf 67 = .ok (.ifCond .eq 18, 3) := by decide +kernel
theorem dX4_tokenOf_70 : decode cX4_tokenOf 70 = .ok (.iload_n 2, 1) := by decide +kernel
theorem dX4_tokenOf_71 : decode cX4_tokenOf 71 = .ok (.iload_n 1, 1) := by decide +kernel
theorem dX4_tokenOf_72 : decode cX4_tokenOf 72 = .ok (.isub, 1) := by decide +kernel
theorem dX4_tokenOf_73 : decode cX4_tokenOf 73 = .ok (.iconst 2, 1) := by decide +kernel
theorem dX4_tokenOf_74 : decode cX4_tokenOf 74 = .ok (.if_icmp .gt 11, 3) := by decide +kernel
theorem dX4_tokenOf_77 : decode cX4_tokenOf 77 = .ok (.iload_n 3, 1) := by decide +kernel
theorem dX4_tokenOf_78 : decode cX4_tokenOf 78 = .ok (.ifCond .ne 7, 3) := by decide +kernel
theorem dX4_tokenOf_81 : decode cX4_tokenOf 81 = .ok (.iconst 1, 1) := by decide +kernel
theorem dX4_tokenOf_82 : decode cX4_tokenOf 82 = .ok (.goto 4, 3) := by decide +kernel
theorem dX4_tokenOf_85 : decode cX4_tokenOf 85 = .ok (.iconst 3, 1) := by decide +kernel
theorem dX4_tokenOf_86 : decode cX4_tokenOf 86 = .ok (.ireturn, 1) := by decide +kernel
theorem dX4_numberOf_0 : decode cX4_numberOf 0 = .ok (.iconst 0, 1) := by decide +kernel
theorem dX4_numberOf_1 : decode cX4_numberOf 1 = .ok (.istore_n 3, 1) := by decide +kernel
theorem dX4_numberOf_2 : decode cX4_numberOf 2 = .ok (.iload_n 1, 1) := by decide +kernel
theorem dX4_numberOf_3 : decode cX4_numberOf 3 = .ok (.istore 4, 2) := by decide +kernel
theorem dX4_numberOf_5 : decode cX4_numberOf 5 = .ok (.iload 4, 2) := by decide +kernel
theorem dX4_numberOf_7 : decode cX4_numberOf 7 = .ok (.ifCond .lt 41, 3) := by decide +kernel
theorem dX4_numberOf_10 : decode cX4_numberOf 10 = .ok (.iload 4, 2) := by decide +kernel
theorem dX4_numberOf_12 : decode cX4_numberOf 12 = .ok (.iload_n 2, 1) := by decide +kernel
theorem dX4_numberOf_13 : decode cX4_numberOf 13 = .ok (.if_icmp .ge 35, 3) := by decide +kernel
theorem dX4_numberOf_16 : decode cX4_numberOf 16 = .ok (.iload 4, 2) := by decide +kernel
theorem dX4_numberOf_18 : decode cX4_numberOf 18 = .ok (.aload_n 0, 1) := by decide +kernel
theorem dX4_numberOf_19 : decode cX4_numberOf 19 = .ok (.getfield 34, 3) := by decide +kernel
theorem dX4_numberOf_22 : decode cX4_numberOf 22 = .ok (.arraylength, 1) := by decide +kernel
theorem dX4_numberOf_23 : decode cX4_numberOf 23 = .ok (.if_icmp .ge 25, 3) := by decide +kernel
theorem dX4_numberOf_26 : decode cX4_numberOf 26 = .ok (.bipush 10, 2) := by decide +kernel
theorem dX4_numberOf_28 : decode cX4_numberOf 28 = .ok (.iload_n 3, 1) := by decide +kernel
theorem dX4_numberOf_29 : decode cX4_numberOf 29 = .ok (.imul, 1) := by decide +kernel
theorem dX4_numberOf_30 : decode cX4_numberOf 30 = .ok (.aload_n 0, 1) := by decide +kernel
theorem dX4_numberOf_31 : decode cX4_numberOf 31 = .ok (.getfield 34, 3) := by decide +kernel
theorem dX4_numberOf_34 : decode cX4_numberOf 34 = .ok (.iload 4, 2) := by decide +kernel
theorem dX4_numberOf_36 : decode cX4_numberOf 36 = .ok (.baload, 1) := by decide +kernel
theorem dX4_numberOf_37 : decode cX4_numberOf 37 = .ok (.bipush 48, 2) := by decide +kernel
theorem dX4_numberOf_39 : decode cX4_numberOf 39 = .ok (.isub, 1) := by decide +kernel
theorem dX4_numberOf_40 : decode cX4_numberOf 40 = .ok (.iadd, 1) := by decide +kernel
theorem dX4_numberOf_41 : decode cX4_numberOf 41 = .ok (.istore_n 3, 1) := by decide +kernel
theorem dX4_numberOf_42 : decode cX4_numberOf 42 = .ok (.iinc 4 1, 3) := by decide +kernel
theorem dX4_numberOf_45 : decode cX4_numberOf 45 = .ok (.goto (-40), 3) := by decide +kernel
theorem dX4_numberOf_48 : decode cX4_numberOf 48 = .ok (.iload_n 3, 1) := by decide +kernel
theorem dX4_numberOf_49 : decode cX4_numberOf 49 = .ok (.ireturn, 1) := by decide +kernel
theorem dX4_wordOf_0 : decode cX4_wordOf 0 = .ok (.aload_n 0, 1) := by decide +kernel
theorem dX4_wordOf_1 : decode cX4_wordOf 1 = .ok (.ldc 141, 2) := by decide +kernel
theorem dX4_wordOf_3 : decode cX4_wordOf 3 = .ok (.iload_n 1, 1) := by decide +kernel
theorem dX4_wordOf_4 : decode cX4_wordOf 4 = .ok (.iload_n 2, 1) := by decide +kernel
theorem dX4_wordOf_5 : decode cX4_wordOf 5 = .ok (.invokevirtual 142, 3) := by decide +kernel
theorem dX4_wordOf_8 : decode cX4_wordOf 8 = .ok (.ifCond .eq 5, 3) := by decide +kernel
theorem dX4_wordOf_11 : decode cX4_wordOf 11 = .ok (.iconst 4, 1) := by decide +kernel
theorem dX4_wordOf_12 : decode cX4_wordOf 12 = .ok (.ireturn, 1) := by decide +kernel
theorem dX4_wordOf_13 : decode cX4_wordOf 13 = .ok (.aload_n 0, 1) := by decide +kernel
theorem dX4_wordOf_14 : decode cX4_wordOf 14 = .ok (.ldc 146, 2) := by decide +kernel
theorem dX4_wordOf_16 : decode cX4_wordOf 16 = .ok (.iload_n 1, 1) := by decide +kernel
theorem dX4_wordOf_17 : decode cX4_wordOf 17 = .ok (.iload_n 2, 1) := by decide +kernel
theorem dX4_wordOf_18 : decode cX4_wordOf 18 = .ok (.invokevirtual 142, 3) := by decide +kernel
theorem dX4_wordOf_21 : decode cX4_wordOf 21 = .ok (.ifCond .eq 5, 3) := by decide +kernel
theorem dX4_wordOf_24 : decode cX4_wordOf 24 = .ok (.iconst 5, 1) := by decide +kernel
theorem dX4_wordOf_25 : decode cX4_wordOf 25 = .ok (.ireturn, 1) := by decide +kernel
theorem dX4_wordOf_26 : decode cX4_wordOf 26 = .ok (.aload_n 0, 1) := by decide +kernel
theorem dX4_wordOf_27 : decode cX4_wordOf 27 = .ok (.ldc 148, 2) := by decide +kernel
theorem dX4_wordOf_29 : decode cX4_wordOf 29 = .ok (.iload_n 1, 1) := by decide +kernel
theorem dX4_wordOf_30 : decode cX4_wordOf 30 = .ok (.iload_n 2, 1) := by decide +kernel
theorem dX4_wordOf_31 : decode cX4_wordOf 31 = .ok (.invokevirtual 142, 3) := by decide +kernel
theorem dX4_wordOf_34 : decode cX4_wordOf 34 = .ok (.ifCond .eq 6, 3) := by decide +kernel
theorem dX4_wordOf_37 : decode cX4_wordOf 37 = .ok (.bipush 6, 2) := by decide +kernel
theorem dX4_wordOf_39 : decode cX4_wordOf 39 = .ok (.ireturn, 1) := by decide +kernel
theorem dX4_wordOf_40 : decode cX4_wordOf 40 = .ok (.aload_n 0, 1) := by decide +kernel
theorem dX4_wordOf_41 : decode cX4_wordOf 41 = .ok (.ldc 150, 2) := by decide +kernel
theorem dX4_wordOf_43 : decode cX4_wordOf 43 = .ok (.iload_n 1, 1) := by decide +kernel
theorem dX4_wordOf_44 : decode cX4_wordOf 44 = .ok (.iload_n 2, 1) := by decide +kernel
theorem dX4_wordOf_45 : decode cX4_wordOf 45 = .ok (.invokevirtual 142, 3) := by decide +kernel
theorem dX4_wordOf_48 : decode cX4_wordOf 48 = .ok (.ifCond .eq 6, 3) := by decide +kernel
theorem dX4_wordOf_51 : decode cX4_wordOf 51 = .ok (.bipush 7, 2) := by decide +kernel
theorem dX4_wordOf_53 : decode cX4_wordOf 53 = .ok (.ireturn, 1) := by decide +kernel
theorem dX4_wordOf_54 : decode cX4_wordOf 54 = .ok (.aload_n 0, 1) := by decide +kernel
theorem dX4_wordOf_55 : decode cX4_wordOf 55 = .ok (.ldc 152, 2) := by decide +kernel
theorem dX4_wordOf_57 : decode cX4_wordOf 57 = .ok (.iload_n 1, 1) := by decide +kernel
theorem dX4_wordOf_58 : decode cX4_wordOf 58 = .ok (.iload_n 2, 1) := by decide +kernel
theorem dX4_wordOf_59 : decode cX4_wordOf 59 = .ok (.invokevirtual 142, 3) := by decide +kernel
theorem dX4_wordOf_62 : decode cX4_wordOf 62 = .ok (.ifCond .eq 6, 3) := by decide +kernel
theorem dX4_wordOf_65 : decode cX4_wordOf 65 = .ok (.bipush 8, 2) := by decide +kernel
theorem dX4_wordOf_67 : decode cX4_wordOf 67 = .ok (.ireturn, 1) := by decide +kernel
theorem dX4_wordOf_68 : decode cX4_wordOf 68 = .ok (.aload_n 0, 1) := by decide +kernel
theorem dX4_wordOf_69 : decode cX4_wordOf 69 = .ok (.ldc 154, 2) := by decide +kernel
theorem dX4_wordOf_71 : decode cX4_wordOf 71 = .ok (.iload_n 1, 1) := by decide +kernel
theorem dX4_wordOf_72 : decode cX4_wordOf 72 = .ok (.iload_n 2, 1) := by decide +kernel
theorem dX4_wordOf_73 : decode cX4_wordOf 73 = .ok (.invokevirtual 142, 3) := by decide +kernel
theorem dX4_wordOf_76 : decode cX4_wordOf 76 = .ok (.ifCond .eq 6, 3) := by decide +kernel
theorem dX4_wordOf_79 : decode cX4_wordOf 79 = .ok (.bipush 9, 2) := by decide +kernel
theorem dX4_wordOf_81 : decode cX4_wordOf 81 = .ok (.ireturn, 1) := by decide +kernel
theorem dX4_wordOf_82 : decode cX4_wordOf 82 = .ok (.aload_n 0, 1) := by decide +kernel
theorem dX4_wordOf_83 : decode cX4_wordOf 83 = .ok (.ldc 156, 2) := by decide +kernel
theorem dX4_wordOf_85 : decode cX4_wordOf 85 = .ok (.iload_n 1, 1) := by decide +kernel
theorem dX4_wordOf_86 : decode cX4_wordOf 86 = .ok (.iload_n 2, 1) := by decide +kernel
theorem dX4_wordOf_87 : decode cX4_wordOf 87 = .ok (.invokevirtual 142, 3) := by decide +kernel
theorem dX4_wordOf_90 : decode cX4_wordOf 90 = .ok (.ifCond .eq 6, 3) := by decide +kernel
theorem dX4_wordOf_93 : decode cX4_wordOf 93 = .ok (.bipush 10, 2) := by decide +kernel
theorem dX4_wordOf_95 : decode cX4_wordOf 95 = .ok (.ireturn, 1) := by decide +kernel
theorem dX4_wordOf_96 : decode cX4_wordOf 96 = .ok (.aload_n 0, 1) := by decide +kernel
theorem dX4_wordOf_97 : decode cX4_wordOf 97 = .ok (.ldc 158, 2) := by decide +kernel
theorem dX4_wordOf_99 : decode cX4_wordOf 99 = .ok (.iload_n 1, 1) := by decide +kernel
theorem dX4_wordOf_100 : decode cX4_wordOf 100 = .ok (.iload_n 2, 1) := by decide +kernel
theorem dX4_wordOf_101 : decode cX4_wordOf 101 = .ok (.invokevirtual 142, 3) := by decide +kernel
theorem dX4_wordOf_104 : decode cX4_wordOf 104 = .ok (.ifCond .eq 6, 3) := by decide +kernel
theorem dX4_wordOf_107 : decode cX4_wordOf 107 = .ok (.bipush 11, 2) := by decide +kernel
theorem dX4_wordOf_109 : decode cX4_wordOf 109 = .ok (.ireturn, 1) := by decide +kernel
theorem dX4_wordOf_110 : decode cX4_wordOf 110 = .ok (.aload_n 0, 1) := by decide +kernel
theorem dX4_wordOf_111 : decode cX4_wordOf 111 = .ok (.ldc 160, 2) := by decide +kernel
theorem dX4_wordOf_113 : decode cX4_wordOf 113 = .ok (.iload_n 1, 1) := by decide +kernel
theorem dX4_wordOf_114 : decode cX4_wordOf 114 = .ok (.iload_n 2, 1) := by decide +kernel
theorem dX4_wordOf_115 : decode cX4_wordOf 115 = .ok (.invokevirtual 142, 3) := by decide +kernel
theorem dX4_wordOf_118 : decode cX4_wordOf 118 = .ok (.ifCond .eq 6, 3) := by decide +kernel
theorem dX4_wordOf_121 : decode cX4_wordOf 121 = .ok (.bipush 12, 2) := by decide +kernel
theorem dX4_wordOf_123 : decode cX4_wordOf 123 = .ok (.ireturn, 1) := by decide +kernel
theorem dX4_wordOf_124 : decode cX4_wordOf 124 = .ok (.iconst 3, 1) := by decide +kernel
theorem dX4_wordOf_125 : decode cX4_wordOf 125 = .ok (.ireturn, 1) := by decide +kernel
theorem dX4_isWord_0 : decode cX4_isWord 0 = .ok (.iload_n 3, 1) := by decide +kernel
theorem dX4_isWord_1 : decode cX4_isWord 1 = .ok (.iload_n 2, 1) := by decide +kernel
theorem dX4_isWord_2 : decode cX4_isWord 2 = .ok (.isub, 1) := by decide +kernel
theorem dX4_isWord_3 : decode cX4_isWord 3 = .ok (.aload_n 1, 1) := by decide +kernel
theorem dX4_isWord_4 : decode cX4_isWord 4 = .ok (.invokevirtual 162, 3) := by decide +kernel
theorem dX4_isWord_7 : decode cX4_isWord 7 = .ok (.if_icmp .ne 16, 3) := by decide +kernel
theorem dX4_isWord_10 : decode cX4_isWord 10 = .ok (.iload_n 2, 1) := by decide +kernel
theorem dX4_isWord_11 : decode cX4_isWord 11 = .ok (.ifCond .lt 12, 3) := by decide +kernel
theorem dX4_isWord_14 : decode cX4_isWord 14 = .ok (.iload_n 3, 1) := by decide +kernel
theorem dX4_isWord_15 : decode cX4_isWord 15 = .ok (.aload_n 0, 1) := by decide +kernel
theorem dX4_isWord_16 : decode cX4_isWord 16 = .ok (.getfield 34, 3) := by decide +kernel
theorem dX4_isWord_19 : decode cX4_isWord 19 = .ok (.arraylength, 1) := by decide +kernel
theorem dX4_isWord_20 : decode cX4_isWord 20 = .ok (.if_icmp .le 5, 3) := by decide +kernel
theorem dX4_isWord_23 : decode cX4_isWord 23 = .ok (.iconst 0, 1) := by decide +kernel
theorem dX4_isWord_24 : decode cX4_isWord 24 = .ok (.ireturn, 1) := by decide +kernel
theorem dX4_isWord_25 : decode cX4_isWord 25 = .ok (.iconst 0, 1) := by decide +kernel
theorem dX4_isWord_26 : decode cX4_isWord 26 = .ok (.istore 4, 2) := by decide +kernel
theorem dX4_isWord_28 : decode cX4_isWord 28 = .ok (.iload 4, 2) := by decide +kernel
theorem dX4_isWord_30 : decode cX4_isWord 30 = .ok (.aload_n 1, 1) := by decide +kernel
theorem dX4_isWord_31 : decode cX4_isWord 31 = .ok (.invokevirtual 162, 3) := by decide +kernel
theorem dX4_isWord_34 : decode cX4_isWord 34 = .ok (.if_icmp .ge 29, 3) := by decide +kernel
theorem dX4_isWord_37 : decode cX4_isWord 37 = .ok (.aload_n 0, 1) := by decide +kernel
theorem dX4_isWord_38 : decode cX4_isWord 38 = .ok (.getfield 34, 3) := by decide +kernel
theorem dX4_isWord_41 : decode cX4_isWord 41 = .ok (.iload_n 2, 1) := by decide +kernel
theorem dX4_isWord_42 : decode cX4_isWord 42 = .ok (.iload 4, 2) := by decide +kernel
theorem dX4_isWord_44 : decode cX4_isWord 44 = .ok (.iadd, 1) := by decide +kernel
theorem dX4_isWord_45 : decode cX4_isWord 45 = .ok (.baload, 1) := by decide +kernel
theorem dX4_isWord_46 : decode cX4_isWord 46 = .ok (.aload_n 1, 1) := by decide +kernel
theorem dX4_isWord_47 : decode cX4_isWord 47 = .ok (.iload 4, 2) := by decide +kernel
theorem dX4_isWord_49 : decode cX4_isWord 49 = .ok (.invokevirtual 167, 3) := by decide +kernel
theorem dX4_isWord_52 : decode cX4_isWord 52 = .ok (.if_icmp .eq 5, 3) := by decide +kernel
theorem dX4_isWord_55 : decode cX4_isWord 55 = .ok (.iconst 0, 1) := by decide +kernel
theorem dX4_isWord_56 : decode cX4_isWord 56 = .ok (.ireturn, 1) := by decide +kernel
theorem dX4_isWord_57 : decode cX4_isWord 57 = .ok (.iinc 4 1, 3) := by decide +kernel
theorem dX4_isWord_60 : decode cX4_isWord 60 = .ok (.goto (-32), 3) := by decide +kernel
theorem dX4_isWord_63 : decode cX4_isWord 63 = .ok (.iconst 1, 1) := by decide +kernel
theorem dX4_isWord_64 : decode cX4_isWord 64 = .ok (.ireturn, 1) := by decide +kernel
theorem dX5_init_0 : decode cX5_init 0 = .ok (.aload_n 0, 1) := by decide +kernel
theorem dX5_init_1 : decode cX5_init 1 = .ok (.invokespecial 3, 3) := by decide +kernel
theorem dX5_init_4 : decode cX5_init 4 = .ok (.aload_n 0, 1) := by decide +kernel
theorem dX5_init_5 : decode cX5_init 5 = .ok (.iconst 4, 1) := by decide +kernel
theorem dX5_init_6 : decode cX5_init 6 = .ok (.newarray .long, 2) := by decide +kernel
theorem dX5_init_8 : decode cX5_init 8 = .ok (.putfield 9, 3) := by decide +kernel
theorem dX5_init_11 : decode cX5_init 11 = .ok (.return_, 1) := by decide +kernel
theorem dX5_startAt_0 : decode cX5_startAt 0 = .ok (.iconst 0, 1) := by decide +kernel
theorem dX5_startAt_1 : decode cX5_startAt 1 = .ok (.istore_n 2, 1) := by decide +kernel
theorem dX5_startAt_2 : decode cX5_startAt 2 = .ok (.iload_n 2, 1) := by decide +kernel
theorem dX5_startAt_3 : decode cX5_startAt 3 = .ok (.iconst 4, 1) := by decide +kernel
theorem dX5_startAt_4 : decode cX5_startAt 4 = .ok (.if_icmp .ge 25, 3) := by decide +kernel
theorem dX5_startAt_7 : decode cX5_startAt 7 = .ok (.aload_n 0, 1) := by decide +kernel
theorem dX5_startAt_8 : decode cX5_startAt 8 = .ok (.getfield 9, 3) := by decide +kernel
theorem dX5_startAt_11 : decode cX5_startAt 11 = .ok (.iload_n 2, 1) := by decide +kernel
theorem dX5_startAt_12 : decode cX5_startAt 12 = .ok (.iload_n 2, 1) := by decide +kernel
theorem dX5_startAt_13 : decode cX5_startAt 13 = .ok (.iload_n 1, 1) := by decide +kernel
theorem dX5_startAt_14 : decode cX5_startAt 14 = .ok (.if_icmp .ne 7, 3) := by decide +kernel
theorem dX5_startAt_17 : decode cX5_startAt 17 = .ok (.lconst 1, 1) := by decide +kernel
theorem dX5_startAt_18 : decode cX5_startAt 18 = .ok (.goto 4, 3) := by decide +kernel
theorem dX5_startAt_21 : decode cX5_startAt 21 = .ok (.lconst 0, 1) := by decide +kernel
theorem dX5_startAt_22 : decode cX5_startAt 22 = .ok (.lastore, 1) := by decide +kernel
theorem dX5_startAt_23 : decode cX5_startAt 23 = .ok (.iinc 2 1, 3) := by decide +kernel
theorem dX5_startAt_26 : decode cX5_startAt 26 = .ok (.goto (-24), 3) := by decide +kernel
theorem dX5_startAt_29 : decode cX5_startAt 29 = .ok (.return_, 1) := by decide +kernel
theorem dX5_becomeLike_0 : decode cX5_becomeLike 0 = .ok (.aload_n 1, 1) := by decide +kernel
theorem dX5_becomeLike_1 : decode cX5_becomeLike 1 = .ok (.getfield 9, 3) := by decide +kernel
theorem dX5_becomeLike_4 : decode cX5_becomeLike 4 = .ok (.iconst 0, 1) := by decide +kernel
theorem dX5_becomeLike_5 : decode cX5_becomeLike 5 = .ok (.aload_n 0, 1) := by decide +kernel
theorem dX5_becomeLike_6 : decode cX5_becomeLike 6 = .ok (.getfield 9, 3) := by decide +kernel
theorem dX5_becomeLike_9 : decode cX5_becomeLike 9 = .ok (.iconst 0, 1) := by decide +kernel
theorem dX5_becomeLike_10 : decode cX5_becomeLike 10 = .ok (.iconst 4, 1) := by decide +kernel
theorem dX5_becomeLike_11 : decode cX5_becomeLike 11 = .ok (.invokestatic 15, 3) := by decide +kernel
theorem dX5_becomeLike_14 : decode cX5_becomeLike 14 = .ok (.return_, 1) := by decide +kernel
theorem dX5_weightOf_0 : decode cX5_weightOf 0 = .ok (.iload_n 1, 1) := by decide +kernel
theorem dX5_weightOf_1 : decode cX5_weightOf 1 = .ok (.ifCond .lt 17, 3) := by decide +kernel
theorem dX5_weightOf_4 : decode cX5_weightOf 4 = .ok (.iload_n 1, 1) := by decide +kernel
theorem dX5_weightOf_5 : decode cX5_weightOf 5 = .ok (.iconst 4, 1) := by decide +kernel
theorem dX5_weightOf_6 : decode cX5_weightOf 6 = .ok (.if_icmp .ge 12, 3) := by decide +kernel
theorem dX5_weightOf_9 : decode cX5_weightOf 9 = .ok (.aload_n 0, 1) := by decide +kernel
theorem dX5_weightOf_10 : decode cX5_weightOf 10 = .ok (.getfield 9, 3) := by decide +kernel
theorem dX5_weightOf_13 : decode cX5_weightOf 13 = .ok (.iload_n 1, 1) := by decide +kernel
theorem dX5_weightOf_14 : decode cX5_weightOf 14 = .ok (.laload, 1) := by decide +kernel
theorem dX5_weightOf_15 : decode cX5_weightOf 15 = .ok (.goto 4, 3) := by decide +kernel
theorem dX5_weightOf_18 : decode cX5_weightOf 18 = .ok (.lconst 0, 1) := by decide +kernel
theorem dX5_weightOf_19 : decode cX5_weightOf 19 = .ok (.lreturn, 1) := by decide +kernel
theorem dX5_total_0 : decode cX5_total 0 = .ok (.aload_n 0, 1) := by decide +kernel
theorem dX5_total_1 : decode cX5_total 1 = .ok (.getfield 9, 3) := by decide +kernel
theorem dX5_total_4 : decode cX5_total 4 = .ok (.iconst 0, 1) := by decide +kernel
theorem dX5_total_5 : decode cX5_total 5 = .ok (.laload, 1) := by decide +kernel
theorem dX5_total_6 : decode cX5_total 6 = .ok (.aload_n 0, 1) := by decide +kernel
theorem dX5_total_7 : decode cX5_total 7 = .ok (.getfield 9, 3) := by decide +kernel
theorem dX5_total_10 : decode cX5_total 10 = .ok (.iconst 1, 1) := by decide +kernel
theorem dX5_total_11 : decode cX5_total 11 = .ok (.laload, 1) := by decide +kernel
theorem dX5_total_12 : decode cX5_total 12 = .ok (.ladd, 1) := by decide +kernel
theorem dX5_total_13 : decode cX5_total 13 = .ok (.aload_n 0, 1) := by decide +kernel
theorem dX5_total_14 : decode cX5_total 14 = .ok (.getfield 9, 3) := by decide +kernel
theorem dX5_total_17 : decode cX5_total 17 = .ok (.iconst 2, 1) := by decide +kernel
theorem dX5_total_18 : decode cX5_total 18 = .ok (.laload, 1) := by decide +kernel
theorem dX5_total_19 : decode cX5_total 19 = .ok (.ladd, 1) := by decide +kernel
theorem dX5_total_20 : decode cX5_total 20 = .ok (.aload_n 0, 1) := by decide +kernel
theorem dX5_total_21 : decode cX5_total 21 = .ok (.getfield 9, 3) := by decide +kernel
theorem dX5_total_24 : decode cX5_total 24 = .ok (.iconst 3, 1) := by decide +kernel
theorem dX5_total_25 : decode cX5_total 25 = .ok (.laload, 1) := by decide +kernel
theorem dX5_total_26 : decode cX5_total 26 = .ok (.ladd, 1) := by decide +kernel
theorem dX5_total_27 : decode cX5_total 27 = .ok (.lreturn, 1) := by decide +kernel
theorem dX5_allGood_0 : decode cX5_allGood 0 = .ok (.lconst 0, 1) := by decide +kernel
theorem dX5_allGood_1 : decode cX5_allGood 1 = .ok (.lstore_n 3, 1) := by decide +kernel
theorem dX5_allGood_2 : decode cX5_allGood 2 = .ok (.iconst 0, 1) := by decide +kernel
theorem dX5_allGood_3 : decode cX5_allGood 3 = .ok (.istore 5, 2) := by decide +kernel
theorem dX5_allGood_5 : decode cX5_allGood 5 = .ok (.iload 5, 2) := by decide +kernel
theorem dX5_allGood_7 : decode cX5_allGood 7 = .ok (.iconst 4, 1) := by decide +kernel
theorem dX5_allGood_8 : decode cX5_allGood 8 = .ok (.if_icmp .ge 30, 3) := by decide +kernel
theorem dX5_allGood_11 : decode cX5_allGood 11 = .ok (.lload_n 3, 1) := by decide +kernel
theorem dX5_allGood_12 : decode cX5_allGood 12 = .ok (.aload_n 0, 1) := by decide +kernel
theorem dX5_allGood_13 : decode cX5_allGood 13 = .ok (.getfield 9, 3) := by decide +kernel
theorem dX5_allGood_16 : decode cX5_allGood 16 = .ok (.iload 5, 2) := by decide +kernel
theorem dX5_allGood_18 : decode cX5_allGood 18 = .ok (.laload, 1) := by decide +kernel
theorem dX5_allGood_19 : decode cX5_allGood 19 = .ok (.aload_n 1, 1) := by decide +kernel
theorem dX5_allGood_20 : decode cX5_allGood 20 = .ok (.iload_n 2, 1) := by decide +kernel
theorem dX5_allGood_21 : decode cX5_allGood 21 = .ok (.iconst 0, 1) := by decide +kernel
theorem dX5_allGood_22 : decode cX5_allGood 22 = .ok (.iload 5, 2) := by decide +kernel
theorem dX5_allGood_24 : decode cX5_allGood 24 = .ok (.iadd, 1) := by decide +kernel
theorem dX5_allGood_25 : decode cX5_allGood 25 = .ok (.invokevirtual 21, 3) := by decide +kernel
theorem dX5_allGood_28 : decode cX5_allGood 28 = .ok (.i2l, 1) := by decide +kernel
theorem dX5_allGood_29 : decode cX5_allGood 29 = .ok (.lmul, 1) := by decide +kernel
theorem dX5_allGood_30 : decode cX5_allGood 30 = .ok (.ladd, 1) := by decide +kernel
theorem dX5_allGood_31 : decode cX5_allGood 31 = .ok (.lstore_n 3, 1) := by decide +kernel
theorem dX5_allGood_32 : decode cX5_allGood 32 = .ok (.iinc 5 1, 3) := by decide +kernel
theorem dX5_allGood_35 : decode cX5_allGood 35 = .ok (.goto (-30), 3) := by decide +kernel
theorem dX5_allGood_38 : decode cX5_allGood 38 = .ok (.lload_n 3, 1) := by decide +kernel
theorem dX5_allGood_39 : decode cX5_allGood 39 = .ok (.lreturn, 1) := by decide +kernel
theorem dX5_weekGoesBy_0 : decode cX5_weekGoesBy 0 = .ok (.aload_n 0, 1) := by decide +kernel
theorem dX5_weekGoesBy_1 : decode cX5_weekGoesBy 1 = .ok (.getfield 9, 3) := by decide +kernel
theorem dX5_weekGoesBy_4 : decode cX5_weekGoesBy 4 = .ok (.iconst 3, 1) := by decide +kernel
theorem dX5_weekGoesBy_5 : decode cX5_weekGoesBy 5 = .ok (.dup2, 1) := by decide +kernel
theorem dX5_weekGoesBy_6 : decode cX5_weekGoesBy 6 = .ok (.laload, 1) := by decide +kernel
theorem dX5_weekGoesBy_7 : decode cX5_weekGoesBy 7 = .ok (.ldc2_w 27, 3) := by decide +kernel
theorem dX5_weekGoesBy_10 : decode cX5_weekGoesBy 10 = .ok (.lmul, 1) := by decide +kernel
theorem dX5_weekGoesBy_11 : decode cX5_weekGoesBy 11 = .ok (.lastore, 1) := by decide +kernel
theorem dX5_weekGoesBy_12 : decode cX5_weekGoesBy 12 = .ok (.iconst 2, 1) := by decide +kernel
theorem dX5_weekGoesBy_13 : decode cX5_weekGoesBy 13 = .ok (.istore 5, 2) := by decide +kernel
theorem dX5_weekGoesBy_15 : decode cX5_weekGoesBy 15 = .ok (.iload 5, 2) := by decide +kernel
theorem dX5_weekGoesBy_17 : decode cX5_weekGoesBy 17 = .ok (.ifCond .lt 60, 3) := by decide +kernel
theorem dX5_weekGoesBy_20 : decode cX5_weekGoesBy 20 = .ok (.aload_n 1, 1) := by decide +kernel
theorem dX5_weekGoesBy_21 : decode cX5_weekGoesBy 21 = .ok (.iload_n 2, 1) := by decide +kernel
theorem dX5_weekGoesBy_22 : decode cX5_weekGoesBy 22 = .ok (.iload 5, 2) := by decide +kernel
theorem dX5_weekGoesBy_24 : decode cX5_weekGoesBy 24 = .ok (.iload_n 3, 1) := by decide +kernel
theorem dX5_weekGoesBy_25 : decode cX5_weekGoesBy 25 = .ok (.iload 4, 2) := by decide +kernel
theorem dX5_weekGoesBy_27 : decode cX5_weekGoesBy 27 = .ok (.invokevirtual 29, 3) := by decide +kernel
theorem dX5_weekGoesBy_30 : decode cX5_weekGoesBy 30 = .ok (.istore 6, 2) := by decide +kernel
theorem dX5_weekGoesBy_32 : decode cX5_weekGoesBy 32 = .ok (.aload_n 0, 1) := by decide +kernel
theorem dX5_weekGoesBy_33 : decode cX5_weekGoesBy 33 = .ok (.getfield 9, 3) := by decide +kernel
theorem dX5_weekGoesBy_36 : decode cX5_weekGoesBy 36 = .ok (.iload 5, 2) := by decide +kernel
theorem dX5_weekGoesBy_38 : decode cX5_weekGoesBy 38 = .ok (.iconst 1, 1) := by decide +kernel
theorem dX5_weekGoesBy_39 : decode cX5_weekGoesBy 39 = .ok (.iadd, 1) := by decide +kernel
theorem dX5_weekGoesBy_40 : decode cX5_weekGoesBy 40 = .ok (.dup2, 1) := by decide +kernel
theorem dX5_weekGoesBy_41 : decode cX5_weekGoesBy 41 = .ok (.laload, 1) := by decide +kernel
theorem dX5_weekGoesBy_42 : decode cX5_weekGoesBy 42 = .ok (.aload_n 0, 1) := by decide +kernel
theorem dX5_weekGoesBy_43 : decode cX5_weekGoesBy 43 = .ok (.getfield 9, 3) := by decide +kernel
theorem dX5_weekGoesBy_46 : decode cX5_weekGoesBy 46 = .ok (.iload 5, 2) := by decide +kernel
theorem dX5_weekGoesBy_48 : decode cX5_weekGoesBy 48 = .ok (.laload, 1) := by decide +kernel
theorem dX5_weekGoesBy_49 : decode cX5_weekGoesBy 49 = .ok (.iload 6, 2) := by decide +kernel
theorem dX5_weekGoesBy_51 : decode cX5_weekGoesBy 51 = .ok (.i2l, 1) := by decide +kernel
theorem dX5_weekGoesBy_52 : decode cX5_weekGoesBy 52 = .ok (.lmul, 1) := by decide +kernel
theorem dX5_weekGoesBy_53 : decode cX5_weekGoesBy 53 = .ok (.ladd, 1) := by decide +kernel
theorem dX5_weekGoesBy_54 : decode cX5_weekGoesBy 54 = .ok (.lastore, 1) := by decide +kernel
theorem dX5_weekGoesBy_55 : decode cX5_weekGoesBy 55 = .ok (.aload_n 0, 1) := by decide +kernel
theorem dX5_weekGoesBy_56 : decode cX5_weekGoesBy 56 = .ok (.getfield 9, 3) := by decide +kernel
theorem dX5_weekGoesBy_59 : decode cX5_weekGoesBy 59 = .ok (.iload 5, 2) := by decide +kernel
theorem dX5_weekGoesBy_61 : decode cX5_weekGoesBy 61 = .ok (.dup2, 1) := by decide +kernel
theorem dX5_weekGoesBy_62 : decode cX5_weekGoesBy 62 = .ok (.laload, 1) := by decide +kernel
theorem dX5_weekGoesBy_63 : decode cX5_weekGoesBy 63 = .ok (.bipush 10, 2) := by decide +kernel
theorem dX5_weekGoesBy_65 : decode cX5_weekGoesBy 65 = .ok (.iload 6, 2) := by decide +kernel
theorem dX5_weekGoesBy_67 : decode cX5_weekGoesBy 67 = .ok (.isub, 1) := by decide +kernel
theorem dX5_weekGoesBy_68 : decode cX5_weekGoesBy 68 = .ok (.i2l, 1) := by decide +kernel
theorem dX5_weekGoesBy_69 : decode cX5_weekGoesBy 69 = .ok (.lmul, 1) := by decide +kernel
theorem dX5_weekGoesBy_70 : decode cX5_weekGoesBy 70 = .ok (.lastore, 1) := by decide +kernel
theorem dX5_weekGoesBy_71 : decode cX5_weekGoesBy 71 = .ok (.iinc 5 (-1), 3) := by decide +kernel
theorem dX5_weekGoesBy_74 : decode cX5_weekGoesBy 74 = .ok (.goto (-59), 3) := by decide +kernel
theorem dX5_weekGoesBy_77 : decode cX5_weekGoesBy 77 = .ok (.return_, 1) := by decide +kernel
theorem dX5_rindIsSeen_0 : decode cX5_rindIsSeen 0 = .ok (.iconst 0, 1) := by decide +kernel
theorem dX5_rindIsSeen_1 : decode cX5_rindIsSeen 1 = .ok (.istore 4, 2) := by decide +kernel
theorem dX5_rindIsSeen_3 : decode cX5_rindIsSeen 3 = .ok (.iload 4, 2) := by decide +kernel
theorem dX5_rindIsSeen_5 : decode cX5_rindIsSeen 5 = .ok (.iconst 4, 1) := by decide +kernel
theorem dX5_rindIsSeen_6 : decode cX5_rindIsSeen 6 = .ok (.if_icmp .ge 47, 3) := by decide +kernel
theorem dX5_rindIsSeen_9 : decode cX5_rindIsSeen 9 = .ok (.aload_n 1, 1) := by decide +kernel
theorem dX5_rindIsSeen_10 : decode cX5_rindIsSeen 10 = .ok (.iload_n 2, 1) := by decide +kernel
theorem dX5_rindIsSeen_11 : decode cX5_rindIsSeen 11 = .ok (.bipush 10, 2) := by decide +kernel
theorem dX5_rindIsSeen_13 : decode cX5_rindIsSeen 13 = .ok (.iload 4, 2) := by decide +kernel
theorem dX5_rindIsSeen_15 : decode cX5_rindIsSeen 15 = .ok (.iadd, 1) := by decide +kernel
theorem dX5_rindIsSeen_16 : decode cX5_rindIsSeen 16 = .ok (.invokevirtual 21, 3) := by decide +kernel
theorem dX5_rindIsSeen_19 : decode cX5_rindIsSeen 19 = .ok (.istore 5, 2) := by decide +kernel
theorem dX5_rindIsSeen_21 : decode cX5_rindIsSeen 21 = .ok (.aload_n 0, 1) := by decide +kernel
theorem dX5_rindIsSeen_22 : decode cX5_rindIsSeen 22 = .ok (.getfield 9, 3) := by decide +kernel
theorem dX5_rindIsSeen_25 : decode cX5_rindIsSeen 25 = .ok (.iload 4, 2) := by decide +kernel
theorem dX5_rindIsSeen_27 : decode cX5_rindIsSeen 27 = .ok (.dup2, 1) := by decide +kernel
theorem dX5_rindIsSeen_28 : decode cX5_rindIsSeen 28 = .ok (.laload, 1) := by decide +kernel
theorem dX5_rindIsSeen_29 : decode cX5_rindIsSeen 29 = .ok (.iload_n 3, 1) := by decide +kernel
theorem dX5_rindIsSeen_30 : decode cX5_rindIsSeen 30 = .ok (.ifCond .eq 9, 3) := by decide +kernel
theorem dX5_rindIsSeen_33 : decode cX5_rindIsSeen 33 = .ok (.iload 5, 2) := by decide +kernel
theorem dX5_rindIsSeen_35 : decode cX5_rindIsSeen 35 = .ok (.i2l, 1) := by decide +kernel
theorem dX5_rindIsSeen_36 : decode cX5_rindIsSeen 36 = .ok (.goto 9, 3) := by decide +kernel
theorem dX5_rindIsSeen_39 : decode cX5_rindIsSeen 39 = .ok (.bipush 10, 2) := by decide +kernel
theorem dX5_rindIsSeen_41 : decode cX5_rindIsSeen 41 = .ok (.iload 5, 2) := by decide +kernel
theorem dX5_rindIsSeen_43 : decode cX5_rindIsSeen 43 = .ok (.isub, 1) := by decide +kernel
theorem dX5_rindIsSeen_44 : decode cX5_rindIsSeen 44 = .ok (.i2l, 1) := by decide +kernel
theorem dX5_rindIsSeen_45 : decode cX5_rindIsSeen 45 = .ok (.lmul, 1) := by decide +kernel
theorem dX5_rindIsSeen_46 : decode cX5_rindIsSeen 46 = .ok (.lastore, 1) := by decide +kernel
theorem dX5_rindIsSeen_47 : decode cX5_rindIsSeen 47 = .ok (.iinc 4 1, 3) := by decide +kernel
theorem dX5_rindIsSeen_50 : decode cX5_rindIsSeen 50 = .ok (.goto (-47), 3) := by decide +kernel
theorem dX5_rindIsSeen_53 : decode cX5_rindIsSeen 53 = .ok (.return_, 1) := by decide +kernel
theorem dX5_becomeLeast_0 : decode cX5_becomeLeast 0 = .ok (.lconst 0, 1) := by decide +kernel
theorem dX5_becomeLeast_1 : decode cX5_becomeLeast 1 = .ok (.lstore_n 1, 1) := by decide +kernel
theorem dX5_becomeLeast_2 : decode cX5_becomeLeast 2 = .ok (.iconst 0, 1) := by decide +kernel
theorem dX5_becomeLeast_3 : decode cX5_becomeLeast 3 = .ok (.istore_n 3, 1) := by decide +kernel
theorem dX5_becomeLeast_4 : decode cX5_becomeLeast 4 = .ok (.iload_n 3, 1) := by decide +kernel
theorem dX5_becomeLeast_5 : decode cX5_becomeLeast 5 = .ok (.iconst 4, 1) := by decide +kernel
theorem dX5_becomeLeast_6 : decode cX5_becomeLeast 6 = .ok (.if_icmp .ge 20, 3) := by decide +kernel
theorem dX5_becomeLeast_9 : decode cX5_becomeLeast 9 = .ok (.lload_n 1, 1) := by decide +kernel
theorem dX5_becomeLeast_10 : decode cX5_becomeLeast 10 = .ok (.aload_n 0, 1) := by decide +kernel
theorem dX5_becomeLeast_11 : decode cX5_becomeLeast 11 = .ok (.getfield 9, 3) := by decide +kernel
theorem dX5_becomeLeast_14 : decode cX5_becomeLeast 14 = .ok (.iload_n 3, 1) := by decide +kernel
theorem dX5_becomeLeast_15 : decode cX5_becomeLeast 15 = .ok (.laload, 1) := by decide +kernel
theorem dX5_becomeLeast_16 : decode cX5_becomeLeast 16 = .ok (.invokestatic 33, 3) := by decide +kernel
theorem dX5_becomeLeast_19 : decode cX5_becomeLeast 19 = .ok (.lstore_n 1, 1) := by decide +kernel
theorem dX5_becomeLeast_20 : decode cX5_becomeLeast 20 = .ok (.iinc 3 1, 3) := by decide +kernel
theorem dX5_becomeLeast_23 : decode cX5_becomeLeast 23 = .ok (.goto (-19), 3) := by decide +kernel
theorem dX5_becomeLeast_26 : decode cX5_becomeLeast 26 = .ok (.iconst 0, 1) := by decide +kernel
theorem dX5_becomeLeast_27 : decode cX5_becomeLeast 27 = .ok (.istore_n 3, 1) := by decide +kernel
theorem dX5_becomeLeast_28 : decode cX5_becomeLeast 28 = .ok (.iload_n 3, 1) := by decide +kernel
theorem dX5_becomeLeast_29 : decode cX5_becomeLeast 29 = .ok (.iconst 4, 1) := by decide +kernel
theorem dX5_becomeLeast_30 : decode cX5_becomeLeast 30 = .ok (.if_icmp .ge 25, 3) := by decide +kernel
theorem dX5_becomeLeast_33 : decode cX5_becomeLeast 33 = .ok (.lload_n 1, 1) := by decide +kernel
theorem dX5_becomeLeast_34 : decode cX5_becomeLeast 34 = .ok (.lconst 1, 1) := by decide +kernel
theorem dX5_becomeLeast_35 : decode cX5_becomeLeast 35 = .ok (.lcmp, 1) := by decide +kernel
theorem dX5_becomeLeast_36 : decode cX5_becomeLeast 36 = .ok (.ifCond .le 19, 3) := by decide +kernel
theorem dX5_becomeLeast_39 : decode cX5_becomeLeast 39 = .ok (.aload_n 0, 1) := by decide +kernel
theorem dX5_becomeLeast_40 : decode cX5_becomeLeast 40 = .ok (.getfield 9, 3) := by decide +kernel
theorem dX5_becomeLeast_43 : decode cX5_becomeLeast 43 = .ok (.iload_n 3, 1) := by decide +kernel
theorem dX5_becomeLeast_44 : decode cX5_becomeLeast 44 = .ok (.dup2, 1) := by decide +kernel
theorem dX5_becomeLeast_45 : decode cX5_becomeLeast 45 = .ok (.laload, 1) := by decide +kernel
theorem dX5_becomeLeast_46 : decode cX5_becomeLeast 46 = .ok (.lload_n 1, 1) := by decide +kernel
theorem dX5_becomeLeast_47 : decode cX5_becomeLeast 47 = .ok (.ldiv, 1) := by decide +kernel
theorem dX5_becomeLeast_48 : decode cX5_becomeLeast 48 = .ok (.lastore, 1) := by decide +kernel
theorem dX5_becomeLeast_49 : decode cX5_becomeLeast 49 = .ok (.iinc 3 1, 3) := by decide +kernel
theorem dX5_becomeLeast_52 : decode cX5_becomeLeast 52 = .ok (.goto (-24), 3) := by decide +kernel
theorem dX5_becomeLeast_55 : decode cX5_becomeLeast 55 = .ok (.return_, 1) := by decide +kernel
theorem dX5_greatest_0 : decode cX5_greatest 0 = .ok (.aload_n 0, 1) := by decide +kernel
theorem dX5_greatest_1 : decode cX5_greatest 1 = .ok (.getfield 9, 3) := by decide +kernel
theorem dX5_greatest_4 : decode cX5_greatest 4 = .ok (.iconst 0, 1) := by decide +kernel
theorem dX5_greatest_5 : decode cX5_greatest 5 = .ok (.laload, 1) := by decide +kernel
theorem dX5_greatest_6 : decode cX5_greatest 6 = .ok (.aload_n 0, 1) := by decide +kernel
theorem dX5_greatest_7 : decode cX5_greatest 7 = .ok (.getfield 9, 3) := by decide +kernel
theorem dX5_greatest_10 : decode cX5_greatest 10 = .ok (.iconst 1, 1) := by decide +kernel
theorem dX5_greatest_11 : decode cX5_greatest 11 = .ok (.laload, 1) := by decide +kernel
theorem dX5_greatest_12 : decode cX5_greatest 12 = .ok (.invokestatic 37, 3) := by decide +kernel
theorem dX5_greatest_15 : decode cX5_greatest 15 = .ok (.aload_n 0, 1) := by decide +kernel
theorem dX5_greatest_16 : decode cX5_greatest 16 = .ok (.getfield 9, 3) := by decide +kernel
theorem dX5_greatest_19 : decode cX5_greatest 19 = .ok (.iconst 2, 1) := by decide +kernel
theorem dX5_greatest_20 : decode cX5_greatest 20 = .ok (.laload, 1) := by decide +kernel
theorem dX5_greatest_21 : decode cX5_greatest 21 = .ok (.aload_n 0, 1) := by decide +kernel
theorem dX5_greatest_22 : decode cX5_greatest 22 = .ok (.getfield 9, 3) := by decide +kernel
theorem dX5_greatest_25 : decode cX5_greatest 25 = .ok (.iconst 3, 1) := by decide +kernel
theorem dX5_greatest_26 : decode cX5_greatest 26 = .ok (.laload, 1) := by decide +kernel
theorem dX5_greatest_27 : decode cX5_greatest 27 = .ok (.invokestatic 37, 3) := by decide +kernel
theorem dX5_greatest_30 : decode cX5_greatest 30 = .ok (.invokestatic 37, 3) := by decide +kernel
theorem dX5_greatest_33 : decode cX5_greatest 33 = .ok (.lreturn, 1) := by decide +kernel
theorem dX6_init_0 : decode cX6_init 0 = .ok (.aload_n 0, 1) := by decide +kernel
theorem dX6_init_1 : decode cX6_init 1 = .ok (.invokespecial 3, 3) := by decide +kernel
theorem dX6_init_4 : decode cX6_init 4 = .ok (.aload_n 0, 1) := by decide +kernel
theorem dX6_init_5 : decode cX6_init 5 = .ok (.new 9, 3) := by decide +kernel
theorem dX6_init_8 : decode cX6_init 8 = .ok (.dup, 1) := by decide +kernel
theorem dX6_init_9 : decode cX6_init 9 = .ok (.invokespecial 11, 3) := by decide +kernel
theorem dX6_init_12 : decode cX6_init 12 = .ok (.putfield 12, 3) := by decide +kernel
theorem dX6_init_15 : decode cX6_init 15 = .ok (.aload_n 0, 1) := by decide +kernel
theorem dX6_init_16 : decode cX6_init 16 = .ok (.new 9, 3) := by decide +kernel
theorem dX6_init_19 : decode cX6_init 19 = .ok (.dup, 1) := by decide +kernel
theorem dX6_init_20 : decode cX6_init 20 = .ok (.invokespecial 11, 3) := by decide +kernel
theorem dX6_init_23 : decode cX6_init 23 = .ok (.putfield 18, 3) := by decide +kernel
theorem dX6_init_26 : decode cX6_init 26 = .ok (.aload_n 0, 1) := by decide +kernel
theorem dX6_init_27 : decode cX6_init 27 = .ok (.iconst 0, 1) := by decide +kernel
theorem dX6_init_28 : decode cX6_init 28 = .ok (.putfield 21, 3) := by decide +kernel
theorem dX6_init_31 : decode cX6_init 31 = .ok (.aload_n 0, 1) := by decide +kernel
theorem dX6_init_32 : decode cX6_init 32 = .ok (.aload_n 1, 1) := by decide +kernel
theorem dX6_init_33 : decode cX6_init 33 = .ok (.putfield 25, 3) := by decide +kernel
theorem dX6_init_36 : decode cX6_init 36 = .ok (.aload_n 0, 1) := by decide +kernel
theorem dX6_init_37 : decode cX6_init 37 = .ok (.getfield 12, 3) := by decide +kernel
theorem dX6_init_40 : decode cX6_init 40 = .ok (.iconst 0, 1) := by decide +kernel
theorem dX6_init_41 : decode cX6_init 41 = .ok (.invokevirtual 29, 3) := by decide +kernel
theorem dX6_init_44 : decode cX6_init 44 = .ok (.return_, 1) := by decide +kernel
theorem dX6_beginAnew_0 : decode cX6_beginAnew 0 = .ok (.aload_n 0, 1) := by decide +kernel
theorem dX6_beginAnew_1 : decode cX6_beginAnew 1 = .ok (.iload_n 1, 1) := by decide +kernel
theorem dX6_beginAnew_2 : decode cX6_beginAnew 2 = .ok (.putfield 21, 3) := by decide +kernel
theorem dX6_beginAnew_5 : decode cX6_beginAnew 5 = .ok (.aload_n 0, 1) := by decide +kernel
theorem dX6_beginAnew_6 : decode cX6_beginAnew 6 = .ok (.getfield 12, 3) := by decide +kernel
theorem dX6_beginAnew_9 : decode cX6_beginAnew 9 = .ok (.iconst 0, 1) := by decide +kernel
theorem dX6_beginAnew_10 : decode cX6_beginAnew 10 = .ok (.invokevirtual 29, 3) := by decide +kernel
theorem dX6_beginAnew_13 : decode cX6_beginAnew 13 = .ok (.return_, 1) := by decide +kernel
theorem dX6_age_0 : decode cX6_age 0 = .ok (.aload_n 0, 1) := by decide +kernel
theorem dX6_age_1 : decode cX6_age 1 = .ok (.getfield 25, 3) := by decide +kernel
theorem dX6_age_4 : decode cX6_age 4 = .ok (.aload_n 0, 1) := by decide +kernel
theorem dX6_age_5 : decode cX6_age 5 = .ok (.getfield 21, 3) := by decide +kernel
theorem dX6_age_8 : decode cX6_age 8 = .ok (.invokevirtual 33, 3) := by decide +kernel
theorem dX6_age_11 : decode cX6_age 11 = .ok (.ifCond .ne 6, 3) := by decide +kernel
theorem dX6_age_14 : decode cX6_age 14 = .ok (.bipush (-2), 2) := by decide +kernel
theorem dX6_age_16 : decode cX6_age 16 = .ok (.ireturn, 1) := by decide +kernel
theorem dX6_age_17 : decode cX6_age 17 = .ok (.aload_n 0, 1) := by decide +kernel
theorem dX6_age_18 : decode cX6_age 18 = .ok (.getfield 18, 3) := by decide +kernel
theorem dX6_age_21 : decode cX6_age 21 = .ok (.aload_n 0, 1) := by decide +kernel
theorem dX6_age_22 : decode cX6_age 22 = .ok (.getfield 12, 3) := by decide +kernel
theorem dX6_age_25 : decode cX6_age 25 = .ok (.invokevirtual 39, 3) := by decide +kernel
theorem dX6_age_28 : decode cX6_age 28 = .ok (.aload_n 0, 1) := by decide +kernel
theorem dX6_age_29 : decode cX6_age 29 = .ok (.getfield 18, 3) := by decide +kernel
theorem dX6_age_32 : decode cX6_age 32 = .ok (.aload_n 0, 1) := by decide +kernel
theorem dX6_age_33 : decode cX6_age 33 = .ok (.getfield 25, 3) := by decide +kernel
theorem dX6_age_36 : decode cX6_age 36 = .ok (.aload_n 0, 1) := by decide +kernel
theorem dX6_age_37 : decode cX6_age 37 = .ok (.getfield 21, 3) := by decide +kernel
theorem dX6_age_40 : decode cX6_age 40 = .ok (.iconst 0, 1) := by decide +kernel
theorem dX6_age_41 : decode cX6_age 41 = .ok (.bipush 8, 2) := by decide +kernel
theorem dX6_age_43 : decode cX6_age 43 = .ok (.invokevirtual 43, 3) := by decide +kernel
theorem dX6_age_46 : decode cX6_age 46 = .ok (.aload_n 0, 1) := by decide +kernel
theorem dX6_age_47 : decode cX6_age 47 = .ok (.invokevirtual 47, 3) := by decide +kernel
theorem dX6_age_50 : decode cX6_age 50 = .ok (.ireturn, 1) := by decide +kernel
theorem dX6_see_0 : decode cX6_see 0 = .ok (.aload_n 0, 1) := by decide +kernel
theorem dX6_see_1 : decode cX6_see 1 = .ok (.getfield 25, 3) := by decide +kernel
theorem dX6_see_4 : decode cX6_see 4 = .ok (.aload_n 0, 1) := by decide +kernel
theorem dX6_see_5 : decode cX6_see 5 = .ok (.getfield 21, 3) := by decide +kernel
theorem dX6_see_8 : decode cX6_see 8 = .ok (.invokevirtual 33, 3) := by decide +kernel
theorem dX6_see_11 : decode cX6_see 11 = .ok (.ifCond .ne 6, 3) := by decide +kernel
theorem dX6_see_14 : decode cX6_see 14 = .ok (.bipush (-2), 2) := by decide +kernel
theorem dX6_see_16 : decode cX6_see 16 = .ok (.ireturn, 1) := by decide +kernel
theorem dX6_see_17 : decode cX6_see 17 = .ok (.aload_n 0, 1) := by decide +kernel
theorem dX6_see_18 : decode cX6_see 18 = .ok (.getfield 18, 3) := by decide +kernel
theorem dX6_see_21 : decode cX6_see 21 = .ok (.aload_n 0, 1) := by decide +kernel
theorem dX6_see_22 : decode cX6_see 22 = .ok (.getfield 12, 3) := by decide +kernel
theorem dX6_see_25 : decode cX6_see 25 = .ok (.invokevirtual 39, 3) := by decide +kernel
theorem dX6_see_28 : decode cX6_see 28 = .ok (.aload_n 0, 1) := by decide +kernel
theorem dX6_see_29 : decode cX6_see 29 = .ok (.getfield 18, 3) := by decide +kernel
theorem dX6_see_32 : decode cX6_see 32 = .ok (.aload_n 0, 1) := by decide +kernel
theorem dX6_see_33 : decode cX6_see 33 = .ok (.getfield 25, 3) := by decide +kernel
theorem dX6_see_36 : decode cX6_see 36 = .ok (.aload_n 0, 1) := by decide +kernel
theorem dX6_see_37 : decode cX6_see 37 = .ok (.getfield 21, 3) := by decide +kernel
theorem dX6_see_40 : decode cX6_see 40 = .ok (.iload_n 1, 1) := by decide +kernel
theorem dX6_see_41 : decode cX6_see 41 = .ok (.invokevirtual 51, 3) := by decide +kernel
theorem dX6_see_44 : decode cX6_see 44 = .ok (.aload_n 0, 1) := by decide +kernel
theorem dX6_see_45 : decode cX6_see 45 = .ok (.getfield 18, 3) := by decide +kernel
theorem dX6_see_48 : decode cX6_see 48 = .ok (.invokevirtual 55, 3) := by decide +kernel
theorem dX6_see_51 : decode cX6_see 51 = .ok (.lconst 0, 1) := by decide +kernel
theorem dX6_see_52 : decode cX6_see 52 = .ok (.lcmp, 1) := by decide +kernel
theorem dX6_see_53 : decode cX6_see 53 = .ok (.ifCond .ne 8, 3) := by decide +kernel
theorem dX6_see_56 : decode cX6_see 56 = .ok (.bipush (-2), 2) := by decide +kernel
theorem dX6_see_58 : decode cX6_see 58 = .ok (.goto 7, 3) := by decide +kernel
theorem dX6_see_61 : decode cX6_see 61 = .ok (.aload_n 0, 1) := by decide +kernel
theorem dX6_see_62 : decode cX6_see 62 = .ok (.invokevirtual 47, 3) := by decide +kernel
theorem dX6_see_65 : decode cX6_see 65 = .ok (.ireturn, 1) := by decide +kernel
theorem dX6_takeTrial_0 : decode cX6_takeTrial 0 = .ok (.aload_n 0, 1) := by decide +kernel
theorem dX6_takeTrial_1 : decode cX6_takeTrial 1 = .ok (.getfield 18, 3) := by decide +kernel
theorem dX6_takeTrial_4 : decode cX6_takeTrial 4 = .ok (.invokevirtual 59, 3) := by decide +kernel
theorem dX6_takeTrial_7 : decode cX6_takeTrial 7 = .ok (.aload_n 0, 1) := by decide +kernel
theorem dX6_takeTrial_8 : decode cX6_takeTrial 8 = .ok (.getfield 18, 3) := by decide +kernel
theorem dX6_takeTrial_11 : decode cX6_takeTrial 11 = .ok (.invokevirtual 62, 3) := by decide +kernel
theorem dX6_takeTrial_14 : decode cX6_takeTrial 14 = .ok (.ldc2_w 65, 3) := by decide +kernel
theorem dX6_takeTrial_17 : decode cX6_takeTrial 17 = .ok (.lcmp, 1) := by decide +kernel
theorem dX6_takeTrial_18 : decode cX6_takeTrial 18 = .ok (.ifCond .le 6, 3) := by decide +kernel
theorem dX6_takeTrial_21 : decode cX6_takeTrial 21 = .ok (.bipush (-3), 2) := by decide +kernel
theorem dX6_takeTrial_23 : decode cX6_takeTrial 23 = .ok (.ireturn, 1) := by decide +kernel
theorem dX6_takeTrial_24 : decode cX6_takeTrial 24 = .ok (.aload_n 0, 1) := by decide +kernel
theorem dX6_takeTrial_25 : decode cX6_takeTrial 25 = .ok (.getfield 12, 3) := by decide +kernel
theorem dX6_takeTrial_28 : decode cX6_takeTrial 28 = .ok (.aload_n 0, 1) := by decide +kernel
theorem dX6_takeTrial_29 : decode cX6_takeTrial 29 = .ok (.getfield 18, 3) := by decide +kernel
theorem dX6_takeTrial_32 : decode cX6_takeTrial 32 = .ok (.invokevirtual 39, 3) := by decide +kernel
theorem dX6_takeTrial_35 : decode cX6_takeTrial 35 = .ok (.iconst 1, 1) := by decide +kernel
theorem dX6_takeTrial_36 : decode cX6_takeTrial 36 = .ok (.ireturn, 1) := by decide +kernel
theorem dX6_likely_0 : decode cX6_likely 0 = .ok (.aload_n 0, 1) := by decide +kernel
theorem dX6_likely_1 : decode cX6_likely 1 = .ok (.getfield 25, 3) := by decide +kernel
theorem dX6_likely_4 : decode cX6_likely 4 = .ok (.aload_n 0, 1) := by decide +kernel
theorem dX6_likely_5 : decode cX6_likely 5 = .ok (.getfield 21, 3) := by decide +kernel
theorem dX6_likely_8 : decode cX6_likely 8 = .ok (.invokevirtual 33, 3) := by decide +kernel
theorem dX6_likely_11 : decode cX6_likely 11 = .ok (.ifCond .ne 7, 3) := by decide +kernel
theorem dX6_likely_14 : decode cX6_likely 14 = .ok (.ldc2_w 67, 3) := by decide +kernel
theorem dX6_likely_17 : decode cX6_likely 17 = .ok (.lreturn, 1) := by decide +kernel
theorem dX6_likely_18 : decode cX6_likely 18 = .ok (.iload_n 1, 1) := by decide +kernel
theorem dX6_likely_19 : decode cX6_likely 19 = .ok (.iconst 4, 1) := by decide +kernel
theorem dX6_likely_20 : decode cX6_likely 20 = .ok (.if_icmp .ne 21, 3) := by decide +kernel
theorem dX6_likely_23 : decode cX6_likely 23 = .ok (.aload_n 0, 1) := by decide +kernel
theorem dX6_likely_24 : decode cX6_likely 24 = .ok (.getfield 12, 3) := by decide +kernel
theorem dX6_likely_27 : decode cX6_likely 27 = .ok (.aload_n 0, 1) := by decide +kernel
theorem dX6_likely_28 : decode cX6_likely 28 = .ok (.getfield 25, 3) := by decide +kernel
theorem dX6_likely_31 : decode cX6_likely 31 = .ok (.aload_n 0, 1) := by decide +kernel
theorem dX6_likely_32 : decode cX6_likely 32 = .ok (.getfield 21, 3) := by decide +kernel
theorem dX6_likely_35 : decode cX6_likely 35 = .ok (.invokevirtual 69, 3) := by decide +kernel
theorem dX6_likely_38 : decode cX6_likely 38 = .ok (.goto 11, 3) := by decide +kernel
theorem dX6_likely_41 : decode cX6_likely 41 = .ok (.aload_n 0, 1) := by decide +kernel
theorem dX6_likely_42 : decode cX6_likely 42 = .ok (.getfield 12, 3) := by decide +kernel
theorem dX6_likely_45 : decode cX6_likely 45 = .ok (.iload_n 1, 1) := by decide +kernel
theorem dX6_likely_46 : decode cX6_likely 46 = .ok (.invokevirtual 73, 3) := by decide +kernel
theorem dX6_likely_49 : decode cX6_likely 49 = .ok (.lstore_n 3, 1) := by decide +kernel
theorem dX6_likely_50 : decode cX6_likely 50 = .ok (.lload_n 3, 1) := by decide +kernel
theorem dX6_likely_51 : decode cX6_likely 51 = .ok (.aload_n 0, 1) := by decide +kernel
theorem dX6_likely_52 : decode cX6_likely 52 = .ok (.getfield 12, 3) := by decide +kernel
theorem dX6_likely_55 : decode cX6_likely 55 = .ok (.invokevirtual 55, 3) := by decide +kernel
theorem dX6_likely_58 : decode cX6_likely 58 = .ok (.iload_n 2, 1) := by decide +kernel
theorem dX6_likely_59 : decode cX6_likely 59 = .ok (.invokestatic 77, 3) := by decide +kernel
theorem dX6_likely_62 : decode cX6_likely 62 = .ok (.lreturn, 1) := by decide +kernel
theorem dX7_init_0 : decode cX7_init 0 = .ok (.aload_n 0, 1) := by decide +kernel
theorem dX7_init_1 : decode cX7_init 1 = .ok (.invokespecial 3, 3) := by decide +kernel
theorem dX7_init_4 : decode cX7_init 4 = .ok (.aload_n 0, 1) := by decide +kernel
theorem dX7_init_5 : decode cX7_init 5 = .ok (.iconst 0, 1) := by decide +kernel
theorem dX7_init_6 : decode cX7_init 6 = .ok (.putfield 9, 3) := by decide +kernel
theorem dX7_init_9 : decode cX7_init 9 = .ok (.aload_n 0, 1) := by decide +kernel
theorem dX7_init_10 : decode cX7_init 10 = .ok (.iconst 0, 1) := by decide +kernel
theorem dX7_init_11 : decode cX7_init 11 = .ok (.putfield 15, 3) := by decide +kernel
theorem dX7_init_14 : decode cX7_init 14 = .ok (.aload_n 0, 1) := by decide +kernel
theorem dX7_init_15 : decode cX7_init 15 = .ok (.iconst 0, 1) := by decide +kernel
theorem dX7_init_16 : decode cX7_init 16 = .ok (.putfield 19, 3) := by decide +kernel
theorem dX7_init_19 : decode cX7_init 19 = .ok (.aload_n 0, 1) := by decide +kernel
theorem dX7_init_20 : decode cX7_init 20 = .ok (.iconst 0, 1) := by decide +kernel
theorem dX7_init_21 : decode cX7_init 21 = .ok (.putfield 22, 3) := by decide +kernel
theorem dX7_init_24 : decode cX7_init 24 = .ok (.aload_n 0, 1) := by decide +kernel
theorem dX7_init_25 : decode cX7_init 25 = .ok (.iconst 0, 1) := by decide +kernel
theorem dX7_init_26 : decode cX7_init 26 = .ok (.putfield 25, 3) := by decide +kernel
theorem dX7_init_29 : decode cX7_init 29 = .ok (.aload_n 0, 1) := by decide +kernel
theorem dX7_init_30 : decode cX7_init 30 = .ok (.iconst 0, 1) := by decide +kernel
theorem dX7_init_31 : decode cX7_init 31 = .ok (.putfield 28, 3) := by decide +kernel
theorem dX7_init_34 : decode cX7_init 34 = .ok (.aload_n 0, 1) := by decide +kernel
theorem dX7_init_35 : decode cX7_init 35 = .ok (.iconst 0, 1) := by decide +kernel
theorem dX7_init_36 : decode cX7_init 36 = .ok (.putfield 31, 3) := by decide +kernel
theorem dX7_init_39 : decode cX7_init 39 = .ok (.aload_n 0, 1) := by decide +kernel
theorem dX7_init_40 : decode cX7_init 40 = .ok (.iconst 0, 1) := by decide +kernel
theorem dX7_init_41 : decode cX7_init 41 = .ok (.putfield 34, 3) := by decide +kernel
theorem dX7_init_44 : decode cX7_init 44 = .ok (.return_, 1) := by decide +kernel
theorem dX7_beginAnew_0 : decode cX7_beginAnew 0 = .ok (.aload_n 0, 1) := by decide +kernel
theorem dX7_beginAnew_1 : decode cX7_beginAnew 1 = .ok (.iconst 0, 1) := by decide +kernel
theorem dX7_beginAnew_2 : decode cX7_beginAnew 2 = .ok (.putfield 9, 3) := by decide +kernel
theorem dX7_beginAnew_5 : decode cX7_beginAnew 5 = .ok (.aload_n 0, 1) := by decide +kernel
theorem dX7_beginAnew_6 : decode cX7_beginAnew 6 = .ok (.iconst 0, 1) := by decide +kernel
theorem dX7_beginAnew_7 : decode cX7_beginAnew 7 = .ok (.putfield 15, 3) := by decide +kernel
theorem dX7_beginAnew_10 : decode cX7_beginAnew 10 = .ok (.aload_n 0, 1) := by decide +kernel
theorem dX7_beginAnew_11 : decode cX7_beginAnew 11 = .ok (.iload_n 1, 1) := by decide +kernel
theorem dX7_beginAnew_12 : decode cX7_beginAnew 12 = .ok (.putfield 19, 3) := by decide +kernel
theorem dX7_beginAnew_15 : decode cX7_beginAnew 15 = .ok (.aload_n 0, 1) := by decide +kernel
theorem dX7_beginAnew_16 : decode cX7_beginAnew 16 = .ok (.iconst 0, 1) := by decide +kernel
theorem dX7_beginAnew_17 : decode cX7_beginAnew 17 = .ok (.putfield 22, 3) := by decide +kernel
theorem dX7_beginAnew_20 : decode cX7_beginAnew 20 = .ok (.aload_n 0, 1) := by decide +kernel
theorem dX7_beginAnew_21 : decode cX7_beginAnew 21 = .ok (.iconst 0, 1) := by decide +kernel
theorem dX7_beginAnew_22 : decode cX7_beginAnew 22 = .ok (.putfield 25, 3) := by decide +kernel
theorem dX7_beginAnew_25 : decode cX7_beginAnew 25 = .ok (.aload_n 0, 1) := by decide +kernel
theorem dX7_beginAnew_26 : decode cX7_beginAnew 26 = .ok (.iconst 0, 1) := by decide +kernel
theorem dX7_beginAnew_27 : decode cX7_beginAnew 27 = .ok (.putfield 28, 3) := by decide +kernel
theorem dX7_beginAnew_30 : decode cX7_beginAnew 30 = .ok (.return_, 1) := by decide +kernel
theorem dX7_becomeLike_0 : decode cX7_becomeLike 0 = .ok (.aload_n 0, 1) := by decide +kernel
theorem dX7_becomeLike_1 : decode cX7_becomeLike 1 = .ok (.aload_n 1, 1) := by decide +kernel
theorem dX7_becomeLike_2 : decode cX7_becomeLike 2 = .ok (.getfield 9, 3) := by decide +kernel
theorem dX7_becomeLike_5 : decode cX7_becomeLike 5 = .ok (.putfield 9, 3) := by decide +kernel
theorem dX7_becomeLike_8 : decode cX7_becomeLike 8 = .ok (.aload_n 0, 1) := by decide +kernel
theorem dX7_becomeLike_9 : decode cX7_becomeLike 9 = .ok (.aload_n 1, 1) := by decide +kernel
theorem dX7_becomeLike_10 : decode cX7_becomeLike 10 = .ok (.getfield 15, 3) := by decide +kernel
theorem dX7_becomeLike_13 : decode cX7_becomeLike 13 = .ok (.putfield 15, 3) := by decide +kernel
theorem dX7_becomeLike_16 : decode cX7_becomeLike 16 = .ok (.aload_n 0, 1) := by decide +kernel
theorem dX7_becomeLike_17 : decode cX7_becomeLike 17 = .ok (.aload_n 1, 1) := by decide +kernel
theorem dX7_becomeLike_18 : decode cX7_becomeLike 18 = .ok (.getfield 19, 3) := by decide +kernel
theorem dX7_becomeLike_21 : decode cX7_becomeLike 21 = .ok (.putfield 19, 3) := by decide +kernel
theorem dX7_becomeLike_24 : decode cX7_becomeLike 24 = .ok (.aload_n 0, 1) := by decide +kernel
theorem dX7_becomeLike_25 : decode cX7_becomeLike 25 = .ok (.aload_n 1, 1) := by decide +kernel
theorem dX7_becomeLike_26 : decode cX7_becomeLike 26 = .ok (.getfield 22, 3) := by decide +kernel
theorem dX7_becomeLike_29 : decode cX7_becomeLike 29 = .ok (.putfield 22, 3) := by decide +kernel
theorem dX7_becomeLike_32 : decode cX7_becomeLike 32 = .ok (.aload_n 0, 1) := by decide +kernel
theorem dX7_becomeLike_33 : decode cX7_becomeLike 33 = .ok (.aload_n 1, 1) := by decide +kernel
theorem dX7_becomeLike_34 : decode cX7_becomeLike 34 = .ok (.getfield 25, 3) := by decide +kernel
theorem dX7_becomeLike_37 : decode cX7_becomeLike 37 = .ok (.putfield 25, 3) := by decide +kernel
theorem dX7_becomeLike_40 : decode cX7_becomeLike 40 = .ok (.aload_n 0, 1) := by decide +kernel
theorem dX7_becomeLike_41 : decode cX7_becomeLike 41 = .ok (.aload_n 1, 1) := by decide +kernel
theorem dX7_becomeLike_42 : decode cX7_becomeLike 42 = .ok (.getfield 28, 3) := by decide +kernel
theorem dX7_becomeLike_45 : decode cX7_becomeLike 45 = .ok (.putfield 28, 3) := by decide +kernel
theorem dX7_becomeLike_48 : decode cX7_becomeLike 48 = .ok (.aload_n 0, 1) := by decide +kernel
theorem dX7_becomeLike_49 : decode cX7_becomeLike 49 = .ok (.aload_n 1, 1) := by decide +kernel
theorem dX7_becomeLike_50 : decode cX7_becomeLike 50 = .ok (.getfield 31, 3) := by decide +kernel
theorem dX7_becomeLike_53 : decode cX7_becomeLike 53 = .ok (.putfield 31, 3) := by decide +kernel
theorem dX7_becomeLike_56 : decode cX7_becomeLike 56 = .ok (.return_, 1) := by decide +kernel
theorem dX7_act_0 : decode cX7_act 0 = .ok (.iload_n 2, 1) := by decide +kernel
theorem dX7_act_1 : decode cX7_act 1 = .ok (.bipush 6, 2) := by decide +kernel
theorem dX7_act_3 : decode cX7_act 3 = .ok (.if_icmp .ne 5, 3) := by decide +kernel
theorem dX7_act_6 : decode cX7_act 6 = .ok (.iconst 0, 1) := by decide +kernel
theorem dX7_act_7 : decode cX7_act 7 = .ok (.ireturn, 1) := by decide +kernel
theorem dX7_act_8 : decode cX7_act 8 = .ok (.aload_n 1, 1) := by decide +kernel
theorem dX7_act_9 : decode cX7_act 9 = .ok (.aload_n 0, 1) := by decide +kernel
theorem dX7_act_10 : decode cX7_act 10 = .ok (.getfield 19, 3) := by decide +kernel
theorem dX7_act_13 : decode cX7_act 13 = .ok (.iload_n 2, 1) := by decide +kernel
theorem dX7_act_14 : decode cX7_act 14 = .ok (.aload_n 0, 1) := by decide +kernel
theorem dX7_act_15 : decode cX7_act 15 = .ok (.getfield 9, 3) := by decide +kernel
theorem dX7_act_18 : decode cX7_act 18 = .ok (.invokevirtual 37, 3) := by decide +kernel
theorem dX7_act_21 : decode cX7_act 21 = .ok (.istore_n 3, 1) := by decide +kernel
theorem dX7_act_22 : decode cX7_act 22 = .ok (.aload_n 0, 1) := by decide +kernel
theorem dX7_act_23 : decode cX7_act 23 = .ok (.aload_n 1, 1) := by decide +kernel
theorem dX7_act_24 : decode cX7_act 24 = .ok (.aload_n 0, 1) := by decide +kernel
theorem dX7_act_25 : decode cX7_act 25 = .ok (.getfield 19, 3) := by decide +kernel
theorem dX7_act_28 : decode cX7_act 28 = .ok (.iload_n 2, 1) := by decide +kernel
theorem dX7_act_29 : decode cX7_act 29 = .ok (.invokevirtual 43, 3) := by decide +kernel
theorem dX7_act_32 : decode cX7_act 32 = .ok (.putfield 19, 3) := by decide +kernel
theorem dX7_act_35 : decode cX7_act 35 = .ok (.aload_n 0, 1) := by decide +kernel
theorem dX7_act_36 : decode cX7_act 36 = .ok (.iconst 1, 1) := by decide +kernel
theorem dX7_act_37 : decode cX7_act 37 = .ok (.putfield 15, 3) := by decide +kernel
theorem dX7_act_40 : decode cX7_act 40 = .ok (.iload_n 2, 1) := by decide +kernel
theorem dX7_act_41 : decode cX7_act 41 = .ok (.iconst 3, 1) := by decide +kernel
theorem dX7_act_42 : decode cX7_act 42 = .ok (.if_icmp .ge 16, 3) := by decide +kernel
theorem dX7_act_45 : decode cX7_act 45 = .ok (.aload_n 0, 1) := by decide +kernel
theorem dX7_act_46 : decode cX7_act 46 = .ok (.dup, 1) := by decide +kernel
theorem dX7_act_47 : decode cX7_act 47 = .ok (.getfield 25, 3) := by decide +kernel
theorem dX7_act_50 : decode cX7_act 50 = .ok (.iload_n 3, 1) := by decide +kernel
theorem dX7_act_51 : decode cX7_act 51 = .ok (.iadd, 1) := by decide +kernel
theorem dX7_act_52 : decode cX7_act 52 = .ok (.putfield 25, 3) := by decide +kernel
theorem dX7_act_55 : decode cX7_act 55 = .ok (.goto 13, 3) := by decide +kernel
theorem dX7_act_58 : decode cX7_act 58 = .ok (.aload_n 0, 1) := by decide +kernel
theorem dX7_act_59 : decode cX7_act 59 = .ok (.dup, 1) := by decide +kernel
theorem dX7_act_60 : decode cX7_act 60 = .ok (.getfield 28, 3) := by decide +kernel
theorem dX7_act_63 : decode cX7_act 63 = .ok (.iload_n 3, 1) := by decide +kernel
theorem dX7_act_64 : decode cX7_act 64 = .ok (.iadd, 1) := by decide +kernel
theorem dX7_act_65 : decode cX7_act 65 = .ok (.putfield 28, 3) := by decide +kernel
theorem dX7_act_68 : decode cX7_act 68 = .ok (.iload_n 3, 1) := by decide +kernel
theorem dX7_act_69 : decode cX7_act 69 = .ok (.ireturn, 1) := by decide +kernel
theorem dX7_goOn_0 : decode cX7_goOn 0 = .ok (.iconst 0, 1) := by decide +kernel
theorem dX7_goOn_1 : decode cX7_goOn 1 = .ok (.istore_n 2, 1) := by decide +kernel
theorem dX7_goOn_2 : decode cX7_goOn 2 = .ok (.iconst 0, 1) := by decide +kernel
theorem dX7_goOn_3 : decode cX7_goOn 3 = .ok (.istore_n 3, 1) := by decide +kernel
theorem dX7_goOn_4 : decode cX7_goOn 4 = .ok (.iload_n 3, 1) := by decide +kernel
theorem dX7_goOn_5 : decode cX7_goOn 5 = .ok (.iconst 3, 1) := by decide +kernel
theorem dX7_goOn_6 : decode cX7_goOn 6 = .ok (.if_icmp .ge 88, 3) := by decide +kernel
theorem dX7_goOn_9 : decode cX7_goOn 9 = .ok (.aload_n 1, 1) := by decide +kernel
theorem dX7_goOn_10 : decode cX7_goOn 10 = .ok (.aload_n 0, 1) := by decide +kernel
theorem dX7_goOn_11 : decode cX7_goOn 11 = .ok (.getfield 19, 3) := by decide +kernel
theorem dX7_goOn_14 : decode cX7_goOn 14 = .ok (.aload_n 0, 1) := by decide +kernel
theorem dX7_goOn_15 : decode cX7_goOn 15 = .ok (.getfield 22, 3) := by decide +kernel
theorem dX7_goOn_18 : decode cX7_goOn 18 = .ok (.iload_n 3, 1) := by decide +kernel
theorem dX7_goOn_19 : decode cX7_goOn 19 = .ok (.invokevirtual 47, 3) := by decide +kernel
theorem dX7_goOn_22 : decode cX7_goOn 22 = .ok (.ifCond .eq 66, 3) := by decide +kernel
theorem dX7_goOn_25 : decode cX7_goOn 25 = .ok (.aload_n 0, 1) := by decide +kernel
theorem dX7_goOn_26 : decode cX7_goOn 26 = .ok (.aload_n 0, 1) := by decide +kernel
theorem dX7_goOn_27 : decode cX7_goOn 27 = .ok (.getfield 31, 3) := by decide +kernel
theorem dX7_goOn_30 : decode cX7_goOn 30 = .ok (.ldc 51, 2) := by decide +kernel
theorem dX7_goOn_32 : decode cX7_goOn 32 = .ok (.imul, 1) := by decide +kernel
theorem dX7_goOn_33 : decode cX7_goOn 33 = .ok (.sipush 12345, 3) := by decide +kernel
theorem dX7_goOn_36 : decode cX7_goOn 36 = .ok (.iadd, 1) := by decide +kernel
theorem dX7_goOn_37 : decode cX7_goOn 37 = .ok (.putfield 31, 3) := by decide +kernel
theorem dX7_goOn_40 : decode cX7_goOn 40 = .ok (.aload_n 0, 1) := by decide +kernel
theorem dX7_goOn_41 : decode cX7_goOn 41 = .ok (.getfield 31, 3) := by decide +kernel
theorem dX7_goOn_44 : decode cX7_goOn 44 = .ok (.bipush 16, 2) := by decide +kernel
theorem dX7_goOn_46 : decode cX7_goOn 46 = .ok (.iushr, 1) := by decide +kernel
theorem dX7_goOn_47 : decode cX7_goOn 47 = .ok (.bipush 10, 2) := by decide +kernel
theorem dX7_goOn_49 : decode cX7_goOn 49 = .ok (.irem, 1) := by decide +kernel
theorem dX7_goOn_50 : decode cX7_goOn 50 = .ok (.aload_n 1, 1) := by decide +kernel
theorem dX7_goOn_51 : decode cX7_goOn 51 = .ok (.aload_n 0, 1) := by decide +kernel
theorem dX7_goOn_52 : decode cX7_goOn 52 = .ok (.getfield 19, 3) := by decide +kernel
theorem dX7_goOn_55 : decode cX7_goOn 55 = .ok (.aload_n 0, 1) := by decide +kernel
theorem dX7_goOn_56 : decode cX7_goOn 56 = .ok (.getfield 22, 3) := by decide +kernel
theorem dX7_goOn_59 : decode cX7_goOn 59 = .ok (.iload_n 3, 1) := by decide +kernel
theorem dX7_goOn_60 : decode cX7_goOn 60 = .ok (.aload_n 0, 1) := by decide +kernel
theorem dX7_goOn_61 : decode cX7_goOn 61 = .ok (.getfield 9, 3) := by decide +kernel
theorem dX7_goOn_64 : decode cX7_goOn 64 = .ok (.invokevirtual 52, 3) := by decide +kernel
theorem dX7_goOn_67 : decode cX7_goOn 67 = .ok (.if_icmp .ge 21, 3) := by decide +kernel
theorem dX7_goOn_70 : decode cX7_goOn 70 = .ok (.aload_n 0, 1) := by decide +kernel
theorem dX7_goOn_71 : decode cX7_goOn 71 = .ok (.dup, 1) := by decide +kernel
theorem dX7_goOn_72 : decode cX7_goOn 72 = .ok (.getfield 19, 3) := by decide +kernel
theorem dX7_goOn_75 : decode cX7_goOn 75 = .ok (.iload_n 3, 1) := by decide +kernel
theorem dX7_goOn_76 : decode cX7_goOn 76 = .ok (.iconst 1, 1) := by decide +kernel
theorem dX7_goOn_77 : decode cX7_goOn 77 = .ok (.iconst 0, 1) := by decide +kernel
theorem dX7_goOn_78 : decode cX7_goOn 78 = .ok (.invokestatic 56, 3) := by decide +kernel
theorem dX7_goOn_81 : decode cX7_goOn 81 = .ok (.iadd, 1) := by decide +kernel
theorem dX7_goOn_82 : decode cX7_goOn 82 = .ok (.putfield 19, 3) := by decide +kernel
theorem dX7_goOn_85 : decode cX7_goOn 85 = .ok (.iinc 2 1, 3) := by decide +kernel
theorem dX7_goOn_88 : decode cX7_goOn 88 = .ok (.iinc 3 1, 3) := by decide +kernel
theorem dX7_goOn_91 : decode cX7_goOn 91 = .ok (.goto (-87), 3) := by decide +kernel
theorem dX7_goOn_94 : decode cX7_goOn 94 = .ok (.aload_n 0, 1) := by decide +kernel
theorem dX7_goOn_95 : decode cX7_goOn 95 = .ok (.dup, 1) := by decide +kernel
theorem dX7_goOn_96 : decode cX7_goOn 96 = .ok (.getfield 9, 3) := by decide +kernel
theorem dX7_goOn_99 : decode cX7_goOn 99 = .ok (.iconst 1, 1) := by decide +kernel
theorem dX7_goOn_100 : decode cX7_goOn 100 = .ok (.iadd, 1) := by decide +kernel
theorem dX7_goOn_101 : decode cX7_goOn 101 = .ok (.putfield 9, 3) := by decide +kernel
theorem dX7_goOn_104 : decode cX7_goOn 104 = .ok (.aload_n 0, 1) := by decide +kernel
theorem dX7_goOn_105 : decode cX7_goOn 105 = .ok (.iconst 0, 1) := by decide +kernel
theorem dX7_goOn_106 : decode cX7_goOn 106 = .ok (.putfield 15, 3) := by decide +kernel
theorem dX7_goOn_109 : decode cX7_goOn 109 = .ok (.iload_n 2, 1) := by decide +kernel
theorem dX7_goOn_110 : decode cX7_goOn 110 = .ok (.ireturn, 1) := by decide +kernel
theorem dX8_init_0 : decode cX8_init 0 = .ok (.aload_n 0, 1) := by decide +kernel
theorem dX8_init_1 : decode cX8_init 1 = .ok (.invokespecial 1, 3) := by decide +kernel
theorem dX8_init_4 : decode cX8_init 4 = .ok (.aload_n 0, 1) := by decide +kernel
theorem dX8_init_5 : decode cX8_init 5 = .ok (.sipush 400, 3) := by decide +kernel
theorem dX8_init_8 : decode cX8_init 8 = .ok (.newarray .byte, 2) := by decide +kernel
theorem dX8_init_10 : decode cX8_init 10 = .ok (.putfield 9, 3) := by decide +kernel
theorem dX8_init_13 : decode cX8_init 13 = .ok (.aload_n 0, 1) := by decide +kernel
theorem dX8_init_14 : decode cX8_init 14 = .ok (.iconst 0, 1) := by decide +kernel
theorem dX8_init_15 : decode cX8_init 15 = .ok (.putfield 13, 3) := by decide +kernel
theorem dX8_init_18 : decode cX8_init 18 = .ok (.aload_n 0, 1) := by decide +kernel
theorem dX8_init_19 : decode cX8_init 19 = .ok (.new 17, 3) := by decide +kernel
theorem dX8_init_22 : decode cX8_init 22 = .ok (.dup, 1) := by decide +kernel
theorem dX8_init_23 : decode cX8_init 23 = .ok (.invokespecial 19, 3) := by decide +kernel
theorem dX8_init_26 : decode cX8_init 26 = .ok (.putfield 20, 3) := by decide +kernel
theorem dX8_init_29 : decode cX8_init 29 = .ok (.aload_n 0, 1) := by decide +kernel
theorem dX8_init_30 : decode cX8_init 30 = .ok (.new 17, 3) := by decide +kernel
theorem dX8_init_33 : decode cX8_init 33 = .ok (.dup, 1) := by decide +kernel
theorem dX8_init_34 : decode cX8_init 34 = .ok (.invokespecial 19, 3) := by decide +kernel
theorem dX8_init_37 : decode cX8_init 37 = .ok (.putfield 24, 3) := by decide +kernel
theorem dX8_init_40 : decode cX8_init 40 = .ok (.aload_n 0, 1) := by decide +kernel
theorem dX8_init_41 : decode cX8_init 41 = .ok (.new 27, 3) := by decide +kernel
theorem dX8_init_44 : decode cX8_init 44 = .ok (.dup, 1) := by decide +kernel
theorem dX8_init_45 : decode cX8_init 45 = .ok (.aload_n 0, 1) := by decide +kernel
theorem dX8_init_46 : decode cX8_init 46 = .ok (.getfield 9, 3) := by decide +kernel
theorem dX8_init_49 : decode cX8_init 49 = .ok (.aload_n 0, 1) := by decide +kernel
theorem dX8_init_50 : decode cX8_init 50 = .ok (.getfield 24, 3) := by decide +kernel
theorem dX8_init_53 : decode cX8_init 53 = .ok (.invokespecial 29, 3) := by decide +kernel
theorem dX8_init_56 : decode cX8_init 56 = .ok (.putfield 32, 3) := by decide +kernel
theorem dX8_init_59 : decode cX8_init 59 = .ok (.aload_n 0, 1) := by decide +kernel
theorem dX8_init_60 : decode cX8_init 60 = .ok (.new 36, 3) := by decide +kernel
theorem dX8_init_63 : decode cX8_init 63 = .ok (.dup, 1) := by decide +kernel
theorem dX8_init_64 : decode cX8_init 64 = .ok (.invokespecial 38, 3) := by decide +kernel
theorem dX8_init_67 : decode cX8_init 67 = .ok (.putfield 39, 3) := by decide +kernel
theorem dX8_init_70 : decode cX8_init 70 = .ok (.aload_n 0, 1) := by decide +kernel
theorem dX8_init_71 : decode cX8_init 71 = .ok (.new 36, 3) := by decide +kernel
theorem dX8_init_74 : decode cX8_init 74 = .ok (.dup, 1) := by decide +kernel
theorem dX8_init_75 : decode cX8_init 75 = .ok (.invokespecial 38, 3) := by decide +kernel
theorem dX8_init_78 : decode cX8_init 78 = .ok (.putfield 43, 3) := by decide +kernel
theorem dX8_init_81 : decode cX8_init 81 = .ok (.aload_n 0, 1) := by decide +kernel
theorem dX8_init_82 : decode cX8_init 82 = .ok (.new 36, 3) := by decide +kernel
theorem dX8_init_85 : decode cX8_init 85 = .ok (.dup, 1) := by decide +kernel
theorem dX8_init_86 : decode cX8_init 86 = .ok (.invokespecial 38, 3) := by decide +kernel
theorem dX8_init_89 : decode cX8_init 89 = .ok (.putfield 46, 3) := by decide +kernel
theorem dX8_init_92 : decode cX8_init 92 = .ok (.aload_n 0, 1) := by decide +kernel
theorem dX8_init_93 : decode cX8_init 93 = .ok (.new 49, 3) := by decide +kernel
theorem dX8_init_96 : decode cX8_init 96 = .ok (.dup, 1) := by decide +kernel
theorem dX8_init_97 : decode cX8_init 97 = .ok (.aload_n 0, 1) := by decide +kernel
theorem dX8_init_98 : decode cX8_init 98 = .ok (.getfield 20, 3) := by decide +kernel
theorem dX8_init_101 : decode cX8_init 101 = .ok (.invokespecial 51, 3) := by decide +kernel
theorem dX8_init_104 : decode cX8_init 104 = .ok (.putfield 54, 3) := by decide +kernel
theorem dX8_init_107 : decode cX8_init 107 = .ok (.aload_n 0, 1) := by decide +kernel
theorem dX8_init_108 : decode cX8_init 108 = .ok (.new 49, 3) := by decide +kernel
theorem dX8_init_111 : decode cX8_init 111 = .ok (.dup, 1) := by decide +kernel
theorem dX8_init_112 : decode cX8_init 112 = .ok (.aload_n 0, 1) := by decide +kernel
theorem dX8_init_113 : decode cX8_init 113 = .ok (.getfield 20, 3) := by decide +kernel
theorem dX8_init_116 : decode cX8_init 116 = .ok (.invokespecial 51, 3) := by decide +kernel
theorem dX8_init_119 : decode cX8_init 119 = .ok (.putfield 58, 3) := by decide +kernel
theorem dX8_init_122 : decode cX8_init 122 = .ok (.aload_n 0, 1) := by decide +kernel
theorem dX8_init_123 : decode cX8_init 123 = .ok (.new 61, 3) := by decide +kernel
theorem dX8_init_126 : decode cX8_init 126 = .ok (.dup, 1) := by decide +kernel
theorem dX8_init_127 : decode cX8_init 127 = .ok (.aload_n 0, 1) := by decide +kernel
theorem dX8_init_128 : decode cX8_init 128 = .ok (.getfield 20, 3) := by decide +kernel
theorem dX8_init_131 : decode cX8_init 131 = .ok (.invokespecial 63, 3) := by decide +kernel
theorem dX8_init_134 : decode cX8_init 134 = .ok (.putfield 64, 3) := by decide +kernel
theorem dX8_init_137 : decode cX8_init 137 = .ok (.aload_n 0, 1) := by decide +kernel
theorem dX8_init_138 : decode cX8_init 138 = .ok (.new 68, 3) := by decide +kernel
theorem dX8_init_141 : decode cX8_init 141 = .ok (.dup, 1) := by decide +kernel
theorem dX8_init_142 : decode cX8_init 142 = .ok (.invokespecial 70, 3) := by decide +kernel
theorem dX8_init_145 : decode cX8_init 145 = .ok (.putfield 71, 3) := by decide +kernel
theorem dX8_init_148 : decode cX8_init 148 = .ok (.aload_n 0, 1) := by decide +kernel
theorem dX8_init_149 : decode cX8_init 149 = .ok (.new 75, 3) := by decide +kernel
theorem dX8_init_152 : decode cX8_init 152 = .ok (.dup, 1) := by decide +kernel
theorem dX8_init_153 : decode cX8_init 153 = .ok (.aload_n 0, 1) := by decide +kernel
theorem dX8_init_154 : decode cX8_init 154 = .ok (.getfield 20, 3) := by decide +kernel
theorem dX8_init_157 : decode cX8_init 157 = .ok (.invokespecial 77, 3) := by decide +kernel
theorem dX8_init_160 : decode cX8_init 160 = .ok (.putfield 78, 3) := by decide +kernel
theorem dX8_init_163 : decode cX8_init 163 = .ok (.aload_n 0, 1) := by decide +kernel
theorem dX8_init_164 : decode cX8_init 164 = .ok (.new 82, 3) := by decide +kernel
theorem dX8_init_167 : decode cX8_init 167 = .ok (.dup, 1) := by decide +kernel
theorem dX8_init_168 : decode cX8_init 168 = .ok (.aload_n 0, 1) := by decide +kernel
theorem dX8_init_169 : decode cX8_init 169 = .ok (.getfield 20, 3) := by decide +kernel
theorem dX8_init_172 : decode cX8_init 172 = .ok (.invokespecial 84, 3) := by decide +kernel
theorem dX8_init_175 : decode cX8_init 175 = .ok (.putfield 85, 3) := by decide +kernel
theorem dX8_init_178 : decode cX8_init 178 = .ok (.aload_n 0, 1) := by decide +kernel
theorem dX8_init_179 : decode cX8_init 179 = .ok (.getfield 39, 3) := by decide +kernel
theorem dX8_init_182 : decode cX8_init 182 = .ok (.iconst 1, 1) := by decide +kernel
theorem dX8_init_183 : decode cX8_init 183 = .ok (.putfield 89, 3) := by decide +kernel
theorem dX8_init_186 : decode cX8_init 186 = .ok (.return_, 1) := by decide +kernel
theorem dX8_type_0 : decode cX8_type 0 = .ok (.iload_n 3, 1) := by decide +kernel
theorem dX8_type_1 : decode cX8_type 1 = .ok (.iconst 1, 1) := by decide +kernel
theorem dX8_type_2 : decode cX8_type 2 = .ok (.if_icmp .lt 9, 3) := by decide +kernel
theorem dX8_type_5 : decode cX8_type 5 = .ok (.iload_n 3, 1) := by decide +kernel
theorem dX8_type_6 : decode cX8_type 6 = .ok (.bipush 8, 2) := by decide +kernel
theorem dX8_type_8 : decode cX8_type 8 = .ok (.if_icmp .le 5, 3) := by decide +kernel
theorem dX8_type_11 : decode cX8_type 11 = .ok (.iconst (-1), 1) := by decide +kernel
theorem dX8_type_12 : decode cX8_type 12 = .ok (.ireturn, 1) := by decide +kernel
theorem dX8_type_13 : decode cX8_type 13 = .ok (.aload_n 0, 1) := by decide +kernel
theorem dX8_type_14 : decode cX8_type 14 = .ok (.getfield 13, 3) := by decide +kernel
theorem dX8_type_17 : decode cX8_type 17 = .ok (.iload_n 3, 1) := by decide +kernel
theorem dX8_type_18 : decode cX8_type 18 = .ok (.iadd, 1) := by decide +kernel
theorem dX8_type_19 : decode cX8_type 19 = .ok (.sipush 400, 3) := by decide +kernel
theorem dX8_type_22 : decode cX8_type 22 = .ok (.if_icmp .le 6, 3) := by decide +kernel
theorem dX8_type_25 : decode cX8_type 25 = .ok (.bipush (-3), 2) := by decide +kernel
theorem dX8_type_27 : decode cX8_type 27 = .ok (.ireturn, 1) := by decide +kernel
theorem dX8_type_28 : decode cX8_type 28 = .ok (.iload_n 3, 1) := by decide +kernel
theorem dX8_type_29 : decode cX8_type 29 = .ok (.iconst 1, 1) := by decide +kernel
theorem dX8_type_30 : decode cX8_type 30 = .ok (.isub, 1) := by decide +kernel
theorem dX8_type_31 : decode cX8_type 31 = .ok (.istore 4, 2) := by decide +kernel
theorem dX8_type_33 : decode cX8_type 33 = .ok (.iload 4, 2) := by decide +kernel
theorem dX8_type_35 : decode cX8_type 35 = .ok (.ifCond .lt 37, 3) := by decide +kernel
theorem dX8_type_38 : decode cX8_type 38 = .ok (.aload_n 0, 1) := by decide +kernel
theorem dX8_type_39 : decode cX8_type 39 = .ok (.getfield 9, 3) := by decide +kernel
theorem dX8_type_42 : decode cX8_type 42 = .ok (.aload_n 0, 1) := by decide +kernel
theorem dX8_type_43 : decode cX8_type 43 = .ok (.getfield 13, 3) := by decide +kernel
theorem dX8_type_46 : decode cX8_type 46 = .ok (.lload_n 1, 1) := by decide +kernel
theorem dX8_type_47 : decode cX8_type 47 = .ok (.bipush 8, 2) := by decide +kernel
theorem dX8_type_49 : decode cX8_type 49 = .ok (.iload 4, 2) := by decide +kernel
theorem dX8_type_51 : decode cX8_type 51 = .ok (.imul, 1) := by decide +kernel
theorem dX8_type_52 : decode cX8_type 52 = .ok (.lushr, 1) := by decide +kernel
theorem dX8_type_53 : decode cX8_type 53 = .ok (.l2i, 1) := by decide +kernel
theorem dX8_type_54 : decode cX8_type 54 = .ok (.i2b, 1) := by decide +kernel
theorem dX8_type_55 : decode cX8_type 55 = .ok (.bastore, 1) := by decide +kernel
theorem dX8_type_56 : decode cX8_type 56 = .ok (.aload_n 0, 1) := by decide +kernel
theorem dX8_type_57 : decode cX8_type 57 = .ok (.dup, 1) := by decide +kernel
theorem dX8_type_58 : decode cX8_type 58 = .ok (.getfield 13, 3) := by decide +kernel
theorem dX8_type_61 : decode cX8_type 61 = .ok (.iconst 1, 1) := by decide +kernel
theorem dX8_type_62 : decode cX8_type 62 = .ok (.iadd, 1) := by decide +kernel
theorem dX8_type_63 : decode cX8_type 63 = .ok (.putfield 13, 3) := by decide +kernel
theorem dX8_type_66 : decode cX8_type 66 = .ok (.iinc 4 (-1), 3) := by decide +kernel
theorem dX8_type_69 : decode cX8_type 69 = .ok (.goto (-36), 3) := by decide +kernel
theorem dX8_type_72 : decode cX8_type 72 = .ok (.aload_n 0, 1) := by decide +kernel
theorem dX8_type_73 : decode cX8_type 73 = .ok (.getfield 13, 3) := by decide +kernel
theorem dX8_type_76 : decode cX8_type 76 = .ok (.ireturn, 1) := by decide +kernel
theorem dX8_clear_0 : decode cX8_clear 0 = .ok (.aload_n 0, 1) := by decide +kernel
theorem dX8_clear_1 : decode cX8_clear 1 = .ok (.getfield 13, 3) := by decide +kernel
theorem dX8_clear_4 : decode cX8_clear 4 = .ok (.istore_n 1, 1) := by decide +kernel
theorem dX8_clear_5 : decode cX8_clear 5 = .ok (.aload_n 0, 1) := by decide +kernel
theorem dX8_clear_6 : decode cX8_clear 6 = .ok (.iconst 0, 1) := by decide +kernel
theorem dX8_clear_7 : decode cX8_clear 7 = .ok (.putfield 13, 3) := by decide +kernel
theorem dX8_clear_10 : decode cX8_clear 10 = .ok (.iload_n 1, 1) := by decide +kernel
theorem dX8_clear_11 : decode cX8_clear 11 = .ok (.ireturn, 1) := by decide +kernel
theorem dX8_cellar_0 : decode cX8_cellar 0 = .ok (.aload_n 0, 1) := by decide +kernel
theorem dX8_cellar_1 : decode cX8_cellar 1 = .ok (.getfield 32, 3) := by decide +kernel
theorem dX8_cellar_4 : decode cX8_cellar 4 = .ok (.aload_n 0, 1) := by decide +kernel
theorem dX8_cellar_5 : decode cX8_cellar 5 = .ok (.getfield 13, 3) := by decide +kernel
theorem dX8_cellar_8 : decode cX8_cellar 8 = .ok (.invokevirtual 92, 3) := by decide +kernel
theorem dX8_cellar_11 : decode cX8_cellar 11 = .ok (.istore_n 1, 1) := by decide +kernel
theorem dX8_cellar_12 : decode cX8_cellar 12 = .ok (.iload_n 1, 1) := by decide +kernel
theorem dX8_cellar_13 : decode cX8_cellar 13 = .ok (.ifCond .ge 5, 3) := by decide +kernel
theorem dX8_cellar_16 : decode cX8_cellar 16 = .ok (.iload_n 1, 1) := by decide +kernel
theorem dX8_cellar_17 : decode cX8_cellar 17 = .ok (.ireturn, 1) := by decide +kernel
theorem dX8_cellar_18 : decode cX8_cellar 18 = .ok (.aload_n 0, 1) := by decide +kernel
theorem dX8_cellar_19 : decode cX8_cellar 19 = .ok (.iconst 0, 1) := by decide +kernel
theorem dX8_cellar_20 : decode cX8_cellar 20 = .ok (.putfield 13, 3) := by decide +kernel
theorem dX8_cellar_23 : decode cX8_cellar 23 = .ok (.aload_n 0, 1) := by decide +kernel
theorem dX8_cellar_24 : decode cX8_cellar 24 = .ok (.getfield 20, 3) := by decide +kernel
theorem dX8_cellar_27 : decode cX8_cellar 27 = .ok (.aload_n 0, 1) := by decide +kernel
theorem dX8_cellar_28 : decode cX8_cellar 28 = .ok (.getfield 24, 3) := by decide +kernel
theorem dX8_cellar_31 : decode cX8_cellar 31 = .ok (.invokevirtual 96, 3) := by decide +kernel
theorem dX8_cellar_34 : decode cX8_cellar 34 = .ok (.aload_n 0, 1) := by decide +kernel
theorem dX8_cellar_35 : decode cX8_cellar 35 = .ok (.getfield 39, 3) := by decide +kernel
theorem dX8_cellar_38 : decode cX8_cellar 38 = .ok (.aload_n 0, 1) := by decide +kernel
theorem dX8_cellar_39 : decode cX8_cellar 39 = .ok (.getfield 20, 3) := by decide +kernel
theorem dX8_cellar_42 : decode cX8_cellar 42 = .ok (.invokevirtual 99, 3) := by decide +kernel
theorem dX8_cellar_45 : decode cX8_cellar 45 = .ok (.invokevirtual 103, 3) := by decide +kernel
theorem dX8_cellar_48 : decode cX8_cellar 48 = .ok (.aload_n 0, 1) := by decide +kernel
theorem dX8_cellar_49 : decode cX8_cellar 49 = .ok (.getfield 43, 3) := by decide +kernel
theorem dX8_cellar_52 : decode cX8_cellar 52 = .ok (.iconst 0, 1) := by decide +kernel
theorem dX8_cellar_53 : decode cX8_cellar 53 = .ok (.putfield 107, 3) := by decide +kernel
theorem dX8_cellar_56 : decode cX8_cellar 56 = .ok (.aload_n 0, 1) := by decide +kernel
theorem dX8_cellar_57 : decode cX8_cellar 57 = .ok (.getfield 46, 3) := by decide +kernel
theorem dX8_cellar_60 : decode cX8_cellar 60 = .ok (.iconst 0, 1) := by decide +kernel
theorem dX8_cellar_61 : decode cX8_cellar 61 = .ok (.putfield 107, 3) := by decide +kernel
theorem dX8_cellar_64 : decode cX8_cellar 64 = .ok (.aload_n 0, 1) := by decide +kernel
theorem dX8_cellar_65 : decode cX8_cellar 65 = .ok (.getfield 78, 3) := by decide +kernel
theorem dX8_cellar_68 : decode cX8_cellar 68 = .ok (.iconst 0, 1) := by decide +kernel
theorem dX8_cellar_69 : decode cX8_cellar 69 = .ok (.invokevirtual 111, 3) := by decide +kernel
theorem dX8_cellar_72 : decode cX8_cellar 72 = .ok (.aload_n 0, 1) := by decide +kernel
theorem dX8_cellar_73 : decode cX8_cellar 73 = .ok (.getfield 54, 3) := by decide +kernel
theorem dX8_cellar_76 : decode cX8_cellar 76 = .ok (.invokevirtual 112, 3) := by decide +kernel
theorem dX8_cellar_79 : decode cX8_cellar 79 = .ok (.aload_n 0, 1) := by decide +kernel
theorem dX8_cellar_80 : decode cX8_cellar 80 = .ok (.getfield 58, 3) := by decide +kernel
theorem dX8_cellar_83 : decode cX8_cellar 83 = .ok (.invokevirtual 112, 3) := by decide +kernel
theorem dX8_cellar_86 : decode cX8_cellar 86 = .ok (.aload_n 0, 1) := by decide +kernel
theorem dX8_cellar_87 : decode cX8_cellar 87 = .ok (.getfield 64, 3) := by decide +kernel
theorem dX8_cellar_90 : decode cX8_cellar 90 = .ok (.invokevirtual 115, 3) := by decide +kernel
theorem dX8_cellar_93 : decode cX8_cellar 93 = .ok (.iload_n 1, 1) := by decide +kernel
theorem dX8_cellar_94 : decode cX8_cellar 94 = .ok (.ireturn, 1) := by decide +kernel
theorem dX8_sort_0 : decode cX8_sort 0 = .ok (.aload_n 0, 1) := by decide +kernel
theorem dX8_sort_1 : decode cX8_sort 1 = .ok (.getfield 20, 3) := by decide +kernel
theorem dX8_sort_4 : decode cX8_sort 4 = .ok (.iload_n 1, 1) := by decide +kernel
theorem dX8_sort_5 : decode cX8_sort 5 = .ok (.invokevirtual 116, 3) := by decide +kernel
theorem dX8_sort_8 : decode cX8_sort 8 = .ok (.ifCond .eq 13, 3) := by decide +kernel
theorem dX8_sort_11 : decode cX8_sort 11 = .ok (.iload_n 2, 1) := by decide +kernel
theorem dX8_sort_12 : decode cX8_sort 12 = .ok (.ifCond .lt 9, 3) := by decide +kernel
theorem dX8_sort_15 : decode cX8_sort 15 = .ok (.iload_n 2, 1) := by decide +kernel
theorem dX8_sort_16 : decode cX8_sort 16 = .ok (.bipush 14, 2) := by decide +kernel
theorem dX8_sort_18 : decode cX8_sort 18 = .ok (.if_icmp .lt 5, 3) := by decide +kernel
theorem dX8_sort_21 : decode cX8_sort 21 = .ok (.iconst (-1), 1) := by decide +kernel
theorem dX8_sort_22 : decode cX8_sort 22 = .ok (.ireturn, 1) := by decide +kernel
theorem dX8_sort_23 : decode cX8_sort 23 = .ok (.aload_n 0, 1) := by decide +kernel
theorem dX8_sort_24 : decode cX8_sort 24 = .ok (.getfield 20, 3) := by decide +kernel
theorem dX8_sort_27 : decode cX8_sort 27 = .ok (.iload_n 1, 1) := by decide +kernel
theorem dX8_sort_28 : decode cX8_sort 28 = .ok (.iload_n 2, 1) := by decide +kernel
theorem dX8_sort_29 : decode cX8_sort 29 = .ok (.invokevirtual 120, 3) := by decide +kernel
theorem dX8_sort_32 : decode cX8_sort 32 = .ok (.ireturn, 1) := by decide +kernel
theorem dX8_wheel_0 : decode cX8_wheel 0 = .ok (.aload_n 0, 1) := by decide +kernel
theorem dX8_wheel_1 : decode cX8_wheel 1 = .ok (.getfield 20, 3) := by decide +kernel
theorem dX8_wheel_4 : decode cX8_wheel 4 = .ok (.iload_n 1, 1) := by decide +kernel
theorem dX8_wheel_5 : decode cX8_wheel 5 = .ok (.invokevirtual 124, 3) := by decide +kernel
theorem dX8_wheel_8 : decode cX8_wheel 8 = .ok (.ifCond .ne 5, 3) := by decide +kernel
theorem dX8_wheel_11 : decode cX8_wheel 11 = .ok (.iconst (-1), 1) := by decide +kernel
theorem dX8_wheel_12 : decode cX8_wheel 12 = .ok (.ireturn, 1) := by decide +kernel
theorem dX8_wheel_13 : decode cX8_wheel 13 = .ok (.iload_n 2, 1) := by decide +kernel
theorem dX8_wheel_14 : decode cX8_wheel 14 = .ok (.tableswitch 178 0 7 #[46, 55, 64, 76, 88, 112, 132, 148], 46) := by decide +kernel
theorem dX8_wheel_60 : decode cX8_wheel 60 = .ok (.aload_n 0, 1) := by decide +kernel
theorem dX8_wheel_61 : decode cX8_wheel 61 = .ok (.getfield 20, 3) := by decide +kernel
theorem dX8_wheel_64 : decode cX8_wheel 64 = .ok (.iload_n 1, 1) := by decide +kernel
theorem dX8_wheel_65 : decode cX8_wheel 65 = .ok (.invokevirtual 127, 3) := by decide +kernel
theorem dX8_wheel_68 : decode cX8_wheel 68 = .ok (.ireturn, 1) := by decide +kernel
theorem dX8_wheel_69 : decode cX8_wheel 69 = .ok (.aload_n 0, 1) := by decide +kernel
theorem dX8_wheel_70 : decode cX8_wheel 70 = .ok (.getfield 20, 3) := by decide +kernel
theorem dX8_wheel_73 : decode cX8_wheel 73 = .ok (.iload_n 1, 1) := by decide +kernel
theorem dX8_wheel_74 : decode cX8_wheel 74 = .ok (.invokevirtual 130, 3) := by decide +kernel
theorem dX8_wheel_77 : decode cX8_wheel 77 = .ok (.ireturn, 1) := by decide +kernel
theorem dX8_wheel_78 : decode cX8_wheel 78 = .ok (.aload_n 0, 1) := by decide +kernel
theorem dX8_wheel_79 : decode cX8_wheel 79 = .ok (.getfield 39, 3) := by decide +kernel
theorem dX8_wheel_82 : decode cX8_wheel 82 = .ok (.getfield 133, 3) := by decide +kernel
end
section
theorem dX8_wheel_85 : decode cX8_wheel 85 = .ok (.iload_n 1, 1) := by decide +kernel
theorem dX8_wheel_86 : decode cX8_wheel 86 = .ok (.invokestatic 136, 3) := by decide +kernel
theorem dX8_wheel_89 : decode cX8_wheel 89 = .ok (.ireturn, 1) := by decide +kernel
theorem dX8_wheel_90 : decode cX8_wheel 90 = .ok (.aload_n 0, 1) := by decide +kernel
theorem dX8_wheel_91 : decode cX8_wheel 91 = .ok (.getfield 39, 3) := by decide +kernel
theorem dX8_wheel_94 : decode cX8_wheel 94 = .ok (.getfield 133, 3) := by decide +kernel
theorem dX8_wheel_97 : decode cX8_wheel 97 = .ok (.iload_n 1, 1) := by decide +kernel
theorem dX8_wheel_98 : decode cX8_wheel 98 = .ok (.invokestatic 139, 3) := by decide +kernel
theorem dX8_wheel_101 : decode cX8_wheel 101 = .ok (.ireturn, 1) := by decide +kernel
theorem dX8_wheel_102 : decode cX8_wheel 102 = .ok (.aload_n 0, 1) := by decide +kernel
theorem dX8_wheel_103 : decode cX8_wheel 103 = .ok (.getfield 20, 3) := by decide +kernel
theorem dX8_wheel_106 : decode cX8_wheel 106 = .ok (.aload_n 0, 1) := by decide +kernel
theorem dX8_wheel_107 : decode cX8_wheel 107 = .ok (.getfield 39, 3) := by decide +kernel
theorem dX8_wheel_110 : decode cX8_wheel 110 = .ok (.getfield 133, 3) := by decide +kernel
theorem dX8_wheel_113 : decode cX8_wheel 113 = .ok (.iload_n 1, 1) := by decide +kernel
theorem dX8_wheel_114 : decode cX8_wheel 114 = .ok (.invokevirtual 142, 3) := by decide +kernel
theorem dX8_wheel_117 : decode cX8_wheel 117 = .ok (.ifCond .eq 7, 3) := by decide +kernel
theorem dX8_wheel_120 : decode cX8_wheel 120 = .ok (.iconst 1, 1) := by decide +kernel
theorem dX8_wheel_121 : decode cX8_wheel 121 = .ok (.goto 4, 3) := by decide +kernel
theorem dX8_wheel_124 : decode cX8_wheel 124 = .ok (.iconst 0, 1) := by decide +kernel
theorem dX8_wheel_125 : decode cX8_wheel 125 = .ok (.ireturn, 1) := by decide +kernel
theorem dX8_wheel_126 : decode cX8_wheel 126 = .ok (.aload_n 0, 1) := by decide +kernel
theorem dX8_wheel_127 : decode cX8_wheel 127 = .ok (.getfield 39, 3) := by decide +kernel
theorem dX8_wheel_130 : decode cX8_wheel 130 = .ok (.getfield 146, 3) := by decide +kernel
theorem dX8_wheel_133 : decode cX8_wheel 133 = .ok (.iload_n 1, 1) := by decide +kernel
theorem dX8_wheel_134 : decode cX8_wheel 134 = .ok (.invokestatic 149, 3) := by decide +kernel
theorem dX8_wheel_137 : decode cX8_wheel 137 = .ok (.ifCond .eq 7, 3) := by decide +kernel
theorem dX8_wheel_140 : decode cX8_wheel 140 = .ok (.iconst 1, 1) := by decide +kernel
theorem dX8_wheel_141 : decode cX8_wheel 141 = .ok (.goto 4, 3) := by decide +kernel
theorem dX8_wheel_144 : decode cX8_wheel 144 = .ok (.iconst 0, 1) := by decide +kernel
theorem dX8_wheel_145 : decode cX8_wheel 145 = .ok (.ireturn, 1) := by decide +kernel
theorem dX8_wheel_146 : decode cX8_wheel 146 = .ok (.aload_n 0, 1) := by decide +kernel
theorem dX8_wheel_147 : decode cX8_wheel 147 = .ok (.getfield 20, 3) := by decide +kernel
theorem dX8_wheel_150 : decode cX8_wheel 150 = .ok (.aload_n 0, 1) := by decide +kernel
theorem dX8_wheel_151 : decode cX8_wheel 151 = .ok (.getfield 39, 3) := by decide +kernel
theorem dX8_wheel_154 : decode cX8_wheel 154 = .ok (.getfield 133, 3) := by decide +kernel
theorem dX8_wheel_157 : decode cX8_wheel 157 = .ok (.iload_n 1, 1) := by decide +kernel
theorem dX8_wheel_158 : decode cX8_wheel 158 = .ok (.invokevirtual 152, 3) := by decide +kernel
theorem dX8_wheel_161 : decode cX8_wheel 161 = .ok (.ireturn, 1) := by decide +kernel
theorem dX8_wheel_162 : decode cX8_wheel 162 = .ok (.aload_n 0, 1) := by decide +kernel
theorem dX8_wheel_163 : decode cX8_wheel 163 = .ok (.getfield 20, 3) := by decide +kernel
theorem dX8_wheel_166 : decode cX8_wheel 166 = .ok (.aload_n 0, 1) := by decide +kernel
theorem dX8_wheel_167 : decode cX8_wheel 167 = .ok (.getfield 39, 3) := by decide +kernel
theorem dX8_wheel_170 : decode cX8_wheel 170 = .ok (.getfield 133, 3) := by decide +kernel
theorem dX8_wheel_173 : decode cX8_wheel 173 = .ok (.aload_n 0, 1) := by decide +kernel
theorem dX8_wheel_174 : decode cX8_wheel 174 = .ok (.getfield 39, 3) := by decide +kernel
theorem dX8_wheel_177 : decode cX8_wheel 177 = .ok (.getfield 146, 3) := by decide +kernel
theorem dX8_wheel_180 : decode cX8_wheel 180 = .ok (.iload_n 1, 1) := by decide +kernel
theorem dX8_wheel_181 : decode cX8_wheel 181 = .ok (.aload_n 0, 1) := by decide +kernel
theorem dX8_wheel_182 : decode cX8_wheel 182 = .ok (.getfield 39, 3) := by decide +kernel
theorem dX8_wheel_185 : decode cX8_wheel 185 = .ok (.getfield 155, 3) := by decide +kernel
theorem dX8_wheel_188 : decode cX8_wheel 188 = .ok (.invokevirtual 158, 3) := by decide +kernel
theorem dX8_wheel_191 : decode cX8_wheel 191 = .ok (.ireturn, 1) := by decide +kernel
theorem dX8_wheel_192 : decode cX8_wheel 192 = .ok (.iconst (-1), 1) := by decide +kernel
theorem dX8_wheel_193 : decode cX8_wheel 193 = .ok (.ireturn, 1) := by decide +kernel
theorem dX8_week_0 : decode cX8_week 0 = .ok (.iload_n 1, 1) := by decide +kernel
theorem dX8_week_1 : decode cX8_week 1 = .ok (.ifCond .lt 18, 3) := by decide +kernel
theorem dX8_week_4 : decode cX8_week 4 = .ok (.iload_n 1, 1) := by decide +kernel
theorem dX8_week_5 : decode cX8_week 5 = .ok (.bipush 8, 2) := by decide +kernel
theorem dX8_week_7 : decode cX8_week 7 = .ok (.if_icmp .ge 12, 3) := by decide +kernel
theorem dX8_week_10 : decode cX8_week 10 = .ok (.iload_n 2, 1) := by decide +kernel
theorem dX8_week_11 : decode cX8_week 11 = .ok (.ifCond .lt 8, 3) := by decide +kernel
theorem dX8_week_14 : decode cX8_week 14 = .ok (.iload_n 2, 1) := by decide +kernel
theorem dX8_week_15 : decode cX8_week 15 = .ok (.iconst 1, 1) := by decide +kernel
theorem dX8_week_16 : decode cX8_week 16 = .ok (.if_icmp .le 5, 3) := by decide +kernel
theorem dX8_week_19 : decode cX8_week 19 = .ok (.iconst (-1), 1) := by decide +kernel
theorem dX8_week_20 : decode cX8_week 20 = .ok (.ireturn, 1) := by decide +kernel
theorem dX8_week_21 : decode cX8_week 21 = .ok (.iload_n 2, 1) := by decide +kernel
theorem dX8_week_22 : decode cX8_week 22 = .ok (.ifCond .ne 14, 3) := by decide +kernel
theorem dX8_week_25 : decode cX8_week 25 = .ok (.aload_n 0, 1) := by decide +kernel
theorem dX8_week_26 : decode cX8_week 26 = .ok (.getfield 20, 3) := by decide +kernel
theorem dX8_week_29 : decode cX8_week 29 = .ok (.iload_n 1, 1) := by decide +kernel
theorem dX8_week_30 : decode cX8_week 30 = .ok (.invokevirtual 162, 3) := by decide +kernel
theorem dX8_week_33 : decode cX8_week 33 = .ok (.goto 11, 3) := by decide +kernel
theorem dX8_week_36 : decode cX8_week 36 = .ok (.aload_n 0, 1) := by decide +kernel
theorem dX8_week_37 : decode cX8_week 37 = .ok (.getfield 20, 3) := by decide +kernel
theorem dX8_week_40 : decode cX8_week 40 = .ok (.iload_n 1, 1) := by decide +kernel
theorem dX8_week_41 : decode cX8_week 41 = .ok (.invokevirtual 165, 3) := by decide +kernel
theorem dX8_week_44 : decode cX8_week 44 = .ok (.ireturn, 1) := by decide +kernel
theorem dX8_place_0 : decode cX8_place 0 = .ok (.aload_n 0, 1) := by decide +kernel
theorem dX8_place_1 : decode cX8_place 1 = .ok (.getfield 20, 3) := by decide +kernel
theorem dX8_place_4 : decode cX8_place 4 = .ok (.iload_n 1, 1) := by decide +kernel
theorem dX8_place_5 : decode cX8_place 5 = .ok (.invokevirtual 124, 3) := by decide +kernel
theorem dX8_place_8 : decode cX8_place 8 = .ok (.ifCond .eq 12, 3) := by decide +kernel
theorem dX8_place_11 : decode cX8_place 11 = .ok (.iload_n 2, 1) := by decide +kernel
theorem dX8_place_12 : decode cX8_place 12 = .ok (.ifCond .lt 8, 3) := by decide +kernel
theorem dX8_place_15 : decode cX8_place 15 = .ok (.iload_n 2, 1) := by decide +kernel
theorem dX8_place_16 : decode cX8_place 16 = .ok (.iconst 3, 1) := by decide +kernel
theorem dX8_place_17 : decode cX8_place 17 = .ok (.if_icmp .le 5, 3) := by decide +kernel
theorem dX8_place_20 : decode cX8_place 20 = .ok (.iconst (-1), 1) := by decide +kernel
theorem dX8_place_21 : decode cX8_place 21 = .ok (.ireturn, 1) := by decide +kernel
theorem dX8_place_22 : decode cX8_place 22 = .ok (.iload_n 3, 1) := by decide +kernel
theorem dX8_place_23 : decode cX8_place 23 = .ok (.ifCond .lt 15, 3) := by decide +kernel
theorem dX8_place_26 : decode cX8_place 26 = .ok (.iload_n 3, 1) := by decide +kernel
theorem dX8_place_27 : decode cX8_place 27 = .ok (.aload_n 0, 1) := by decide +kernel
theorem dX8_place_28 : decode cX8_place 28 = .ok (.getfield 20, 3) := by decide +kernel
theorem dX8_place_31 : decode cX8_place 31 = .ok (.iload_n 1, 1) := by decide +kernel
theorem dX8_place_32 : decode cX8_place 32 = .ok (.invokevirtual 130, 3) := by decide +kernel
theorem dX8_place_35 : decode cX8_place 35 = .ok (.if_icmp .le 5, 3) := by decide +kernel
theorem dX8_place_38 : decode cX8_place 38 = .ok (.iconst (-1), 1) := by decide +kernel
theorem dX8_place_39 : decode cX8_place 39 = .ok (.ireturn, 1) := by decide +kernel
theorem dX8_place_40 : decode cX8_place 40 = .ok (.bipush 10, 2) := by decide +kernel
theorem dX8_place_42 : decode cX8_place 42 = .ok (.aload_n 0, 1) := by decide +kernel
theorem dX8_place_43 : decode cX8_place 43 = .ok (.getfield 39, 3) := by decide +kernel
theorem dX8_place_46 : decode cX8_place 46 = .ok (.getfield 133, 3) := by decide +kernel
theorem dX8_place_49 : decode cX8_place 49 = .ok (.iload_n 1, 1) := by decide +kernel
theorem dX8_place_50 : decode cX8_place 50 = .ok (.invokestatic 136, 3) := by decide +kernel
theorem dX8_place_53 : decode cX8_place 53 = .ok (.imul, 1) := by decide +kernel
theorem dX8_place_54 : decode cX8_place 54 = .ok (.aload_n 0, 1) := by decide +kernel
theorem dX8_place_55 : decode cX8_place 55 = .ok (.getfield 39, 3) := by decide +kernel
theorem dX8_place_58 : decode cX8_place 58 = .ok (.getfield 133, 3) := by decide +kernel
theorem dX8_place_61 : decode cX8_place 61 = .ok (.iload_n 1, 1) := by decide +kernel
theorem dX8_place_62 : decode cX8_place 62 = .ok (.invokestatic 139, 3) := by decide +kernel
theorem dX8_place_65 : decode cX8_place 65 = .ok (.iadd, 1) := by decide +kernel
theorem dX8_place_66 : decode cX8_place 66 = .ok (.istore 4, 2) := by decide +kernel
theorem dX8_place_68 : decode cX8_place 68 = .ok (.aload_n 0, 1) := by decide +kernel
theorem dX8_place_69 : decode cX8_place 69 = .ok (.getfield 39, 3) := by decide +kernel
theorem dX8_place_72 : decode cX8_place 72 = .ok (.aload_n 0, 1) := by decide +kernel
theorem dX8_place_73 : decode cX8_place 73 = .ok (.getfield 39, 3) := by decide +kernel
theorem dX8_place_76 : decode cX8_place 76 = .ok (.getfield 133, 3) := by decide +kernel
theorem dX8_place_79 : decode cX8_place 79 = .ok (.iload_n 1, 1) := by decide +kernel
theorem dX8_place_80 : decode cX8_place 80 = .ok (.invokestatic 168, 3) := by decide +kernel
theorem dX8_place_83 : decode cX8_place 83 = .ok (.iload_n 1, 1) := by decide +kernel
theorem dX8_place_84 : decode cX8_place 84 = .ok (.iload_n 2, 1) := by decide +kernel
theorem dX8_place_85 : decode cX8_place 85 = .ok (.iload_n 3, 1) := by decide +kernel
theorem dX8_place_86 : decode cX8_place 86 = .ok (.invokestatic 171, 3) := by decide +kernel
theorem dX8_place_89 : decode cX8_place 89 = .ok (.ior, 1) := by decide +kernel
theorem dX8_place_90 : decode cX8_place 90 = .ok (.putfield 133, 3) := by decide +kernel
theorem dX8_place_93 : decode cX8_place 93 = .ok (.iload 4, 2) := by decide +kernel
theorem dX8_place_95 : decode cX8_place 95 = .ok (.ireturn, 1) := by decide +kernel
theorem dX8_eat_0 : decode cX8_eat 0 = .ok (.aload_n 0, 1) := by decide +kernel
theorem dX8_eat_1 : decode cX8_eat 1 = .ok (.getfield 20, 3) := by decide +kernel
theorem dX8_eat_4 : decode cX8_eat 4 = .ok (.iload_n 1, 1) := by decide +kernel
theorem dX8_eat_5 : decode cX8_eat 5 = .ok (.invokevirtual 124, 3) := by decide +kernel
theorem dX8_eat_8 : decode cX8_eat 8 = .ok (.ifCond .eq 11, 3) := by decide +kernel
theorem dX8_eat_11 : decode cX8_eat 11 = .ok (.aload_n 0, 1) := by decide +kernel
theorem dX8_eat_12 : decode cX8_eat 12 = .ok (.iload_n 1, 1) := by decide +kernel
theorem dX8_eat_13 : decode cX8_eat 13 = .ok (.invokevirtual 175, 3) := by decide +kernel
theorem dX8_eat_16 : decode cX8_eat 16 = .ok (.goto 4, 3) := by decide +kernel
theorem dX8_eat_19 : decode cX8_eat 19 = .ok (.iconst (-1), 1) := by decide +kernel
theorem dX8_eat_20 : decode cX8_eat 20 = .ok (.ireturn, 1) := by decide +kernel
theorem dX8_sell_0 : decode cX8_sell 0 = .ok (.aload_n 0, 1) := by decide +kernel
theorem dX8_sell_1 : decode cX8_sell 1 = .ok (.getfield 20, 3) := by decide +kernel
theorem dX8_sell_4 : decode cX8_sell 4 = .ok (.iload_n 1, 1) := by decide +kernel
theorem dX8_sell_5 : decode cX8_sell 5 = .ok (.invokevirtual 124, 3) := by decide +kernel
theorem dX8_sell_8 : decode cX8_sell 8 = .ok (.ifCond .eq 13, 3) := by decide +kernel
theorem dX8_sell_11 : decode cX8_sell 11 = .ok (.aload_n 0, 1) := by decide +kernel
theorem dX8_sell_12 : decode cX8_sell 12 = .ok (.iconst 3, 1) := by decide +kernel
theorem dX8_sell_13 : decode cX8_sell 13 = .ok (.iload_n 1, 1) := by decide +kernel
theorem dX8_sell_14 : decode cX8_sell 14 = .ok (.iadd, 1) := by decide +kernel
theorem dX8_sell_15 : decode cX8_sell 15 = .ok (.invokevirtual 175, 3) := by decide +kernel
theorem dX8_sell_18 : decode cX8_sell 18 = .ok (.goto 4, 3) := by decide +kernel
theorem dX8_sell_21 : decode cX8_sell 21 = .ok (.iconst (-1), 1) := by decide +kernel
theorem dX8_sell_22 : decode cX8_sell 22 = .ok (.ireturn, 1) := by decide +kernel
theorem dX8_actIfMay_0 : decode cX8_actIfMay 0 = .ok (.aload_n 0, 1) := by decide +kernel
theorem dX8_actIfMay_1 : decode cX8_actIfMay 1 = .ok (.invokevirtual 178, 3) := by decide +kernel
theorem dX8_actIfMay_4 : decode cX8_actIfMay 4 = .ok (.ifCond .eq 21, 3) := by decide +kernel
theorem dX8_actIfMay_7 : decode cX8_actIfMay 7 = .ok (.aload_n 0, 1) := by decide +kernel
theorem dX8_actIfMay_8 : decode cX8_actIfMay 8 = .ok (.getfield 20, 3) := by decide +kernel
theorem dX8_actIfMay_11 : decode cX8_actIfMay 11 = .ok (.aload_n 0, 1) := by decide +kernel
theorem dX8_actIfMay_12 : decode cX8_actIfMay 12 = .ok (.getfield 39, 3) := by decide +kernel
theorem dX8_actIfMay_15 : decode cX8_actIfMay 15 = .ok (.getfield 133, 3) := by decide +kernel
theorem dX8_actIfMay_18 : decode cX8_actIfMay 18 = .ok (.iload_n 1, 1) := by decide +kernel
theorem dX8_actIfMay_19 : decode cX8_actIfMay 19 = .ok (.invokevirtual 182, 3) := by decide +kernel
theorem dX8_actIfMay_22 : decode cX8_actIfMay 22 = .ok (.ifCond .ne 6, 3) := by decide +kernel
theorem dX8_actIfMay_25 : decode cX8_actIfMay 25 = .ok (.bipush (-2), 2) := by decide +kernel
theorem dX8_actIfMay_27 : decode cX8_actIfMay 27 = .ok (.ireturn, 1) := by decide +kernel
theorem dX8_actIfMay_28 : decode cX8_actIfMay 28 = .ok (.aload_n 0, 1) := by decide +kernel
theorem dX8_actIfMay_29 : decode cX8_actIfMay 29 = .ok (.getfield 39, 3) := by decide +kernel
theorem dX8_actIfMay_32 : decode cX8_actIfMay 32 = .ok (.aload_n 0, 1) := by decide +kernel
theorem dX8_actIfMay_33 : decode cX8_actIfMay 33 = .ok (.getfield 20, 3) := by decide +kernel
theorem dX8_actIfMay_36 : decode cX8_actIfMay 36 = .ok (.iload_n 1, 1) := by decide +kernel
theorem dX8_actIfMay_37 : decode cX8_actIfMay 37 = .ok (.invokevirtual 185, 3) := by decide +kernel
theorem dX8_actIfMay_40 : decode cX8_actIfMay 40 = .ok (.ireturn, 1) := by decide +kernel
theorem dX8_isOver_0 : decode cX8_isOver 0 = .ok (.aload_n 0, 1) := by decide +kernel
theorem dX8_isOver_1 : decode cX8_isOver 1 = .ok (.getfield 39, 3) := by decide +kernel
theorem dX8_isOver_4 : decode cX8_isOver 4 = .ok (.getfield 155, 3) := by decide +kernel
theorem dX8_isOver_7 : decode cX8_isOver 7 = .ok (.aload_n 0, 1) := by decide +kernel
theorem dX8_isOver_8 : decode cX8_isOver 8 = .ok (.getfield 20, 3) := by decide +kernel
theorem dX8_isOver_11 : decode cX8_isOver 11 = .ok (.getfield 189, 3) := by decide +kernel
theorem dX8_isOver_14 : decode cX8_isOver 14 = .ok (.if_icmp .lt 7, 3) := by decide +kernel
theorem dX8_isOver_17 : decode cX8_isOver 17 = .ok (.iconst 1, 1) := by decide +kernel
theorem dX8_isOver_18 : decode cX8_isOver 18 = .ok (.goto 4, 3) := by decide +kernel
theorem dX8_isOver_21 : decode cX8_isOver 21 = .ok (.iconst 0, 1) := by decide +kernel
theorem dX8_isOver_22 : decode cX8_isOver 22 = .ok (.ireturn, 1) := by decide +kernel
theorem dX8_mayActNow_0 : decode cX8_mayActNow 0 = .ok (.aload_n 0, 1) := by decide +kernel
theorem dX8_mayActNow_1 : decode cX8_mayActNow 1 = .ok (.getfield 39, 3) := by decide +kernel
theorem dX8_mayActNow_4 : decode cX8_mayActNow 4 = .ok (.getfield 192, 3) := by decide +kernel
theorem dX8_mayActNow_7 : decode cX8_mayActNow 7 = .ok (.ifCond .ne 14, 3) := by decide +kernel
theorem dX8_mayActNow_10 : decode cX8_mayActNow 10 = .ok (.aload_n 0, 1) := by decide +kernel
theorem dX8_mayActNow_11 : decode cX8_mayActNow 11 = .ok (.invokevirtual 195, 3) := by decide +kernel
theorem dX8_mayActNow_14 : decode cX8_mayActNow 14 = .ok (.ifCond .ne 7, 3) := by decide +kernel
theorem dX8_mayActNow_17 : decode cX8_mayActNow 17 = .ok (.iconst 1, 1) := by decide +kernel
theorem dX8_mayActNow_18 : decode cX8_mayActNow 18 = .ok (.goto 4, 3) := by decide +kernel
theorem dX8_mayActNow_21 : decode cX8_mayActNow 21 = .ok (.iconst 0, 1) := by decide +kernel
theorem dX8_mayActNow_22 : decode cX8_mayActNow 22 = .ok (.ireturn, 1) := by decide +kernel
theorem dX8_stop_0 : decode cX8_stop 0 = .ok (.aload_n 0, 1) := by decide +kernel
theorem dX8_stop_1 : decode cX8_stop 1 = .ok (.getfield 20, 3) := by decide +kernel
theorem dX8_stop_4 : decode cX8_stop 4 = .ok (.iload_n 1, 1) := by decide +kernel
theorem dX8_stop_5 : decode cX8_stop 5 = .ok (.invokevirtual 124, 3) := by decide +kernel
theorem dX8_stop_8 : decode cX8_stop 8 = .ok (.ifCond .ne 5, 3) := by decide +kernel
theorem dX8_stop_11 : decode cX8_stop 11 = .ok (.iconst (-1), 1) := by decide +kernel
theorem dX8_stop_12 : decode cX8_stop 12 = .ok (.ireturn, 1) := by decide +kernel
theorem dX8_stop_13 : decode cX8_stop 13 = .ok (.aload_n 0, 1) := by decide +kernel
theorem dX8_stop_14 : decode cX8_stop 14 = .ok (.getfield 39, 3) := by decide +kernel
theorem dX8_stop_17 : decode cX8_stop 17 = .ok (.getfield 146, 3) := by decide +kernel
theorem dX8_stop_20 : decode cX8_stop 20 = .ok (.iload_n 1, 1) := by decide +kernel
theorem dX8_stop_21 : decode cX8_stop 21 = .ok (.invokestatic 149, 3) := by decide +kernel
theorem dX8_stop_24 : decode cX8_stop 24 = .ok (.ifCond .eq 7, 3) := by decide +kernel
theorem dX8_stop_27 : decode cX8_stop 27 = .ok (.iconst 0, 1) := by decide +kernel
theorem dX8_stop_28 : decode cX8_stop 28 = .ok (.goto 4, 3) := by decide +kernel
theorem dX8_stop_31 : decode cX8_stop 31 = .ok (.iconst 1, 1) := by decide +kernel
theorem dX8_stop_32 : decode cX8_stop 32 = .ok (.istore_n 2, 1) := by decide +kernel
theorem dX8_stop_33 : decode cX8_stop 33 = .ok (.aload_n 0, 1) := by decide +kernel
theorem dX8_stop_34 : decode cX8_stop 34 = .ok (.getfield 39, 3) := by decide +kernel
theorem dX8_stop_37 : decode cX8_stop 37 = .ok (.dup, 1) := by decide +kernel
theorem dX8_stop_38 : decode cX8_stop 38 = .ok (.getfield 146, 3) := by decide +kernel
theorem dX8_stop_41 : decode cX8_stop 41 = .ok (.iconst 1, 1) := by decide +kernel
theorem dX8_stop_42 : decode cX8_stop 42 = .ok (.iload_n 1, 1) := by decide +kernel
theorem dX8_stop_43 : decode cX8_stop 43 = .ok (.ishl, 1) := by decide +kernel
theorem dX8_stop_44 : decode cX8_stop 44 = .ok (.ior, 1) := by decide +kernel
theorem dX8_stop_45 : decode cX8_stop 45 = .ok (.putfield 146, 3) := by decide +kernel
theorem dX8_stop_48 : decode cX8_stop 48 = .ok (.iload_n 2, 1) := by decide +kernel
theorem dX8_stop_49 : decode cX8_stop 49 = .ok (.ireturn, 1) := by decide +kernel
theorem dX8_next_0 : decode cX8_next 0 = .ok (.aload_n 0, 1) := by decide +kernel
theorem dX8_next_1 : decode cX8_next 1 = .ok (.invokevirtual 195, 3) := by decide +kernel
theorem dX8_next_4 : decode cX8_next 4 = .ok (.ifCond .eq 8, 3) := by decide +kernel
theorem dX8_next_7 : decode cX8_next 7 = .ok (.bipush (-2), 2) := by decide +kernel
theorem dX8_next_9 : decode cX8_next 9 = .ok (.goto 14, 3) := by decide +kernel
theorem dX8_next_12 : decode cX8_next 12 = .ok (.aload_n 0, 1) := by decide +kernel
theorem dX8_next_13 : decode cX8_next 13 = .ok (.getfield 39, 3) := by decide +kernel
theorem dX8_next_16 : decode cX8_next 16 = .ok (.aload_n 0, 1) := by decide +kernel
theorem dX8_next_17 : decode cX8_next 17 = .ok (.getfield 20, 3) := by decide +kernel
theorem dX8_next_20 : decode cX8_next 20 = .ok (.invokevirtual 198, 3) := by decide +kernel
theorem dX8_next_23 : decode cX8_next 23 = .ok (.ireturn, 1) := by decide +kernel
theorem dX8_now_0 : decode cX8_now 0 = .ok (.iload_n 1, 1) := by decide +kernel
theorem dX8_now_1 : decode cX8_now 1 = .ok (.tableswitch 122 0 6 #[43, 51, 67, 75, 83, 94, 107], 43) := by decide +kernel
theorem dX8_now_44 : decode cX8_now 44 = .ok (.aload_n 0, 1) := by decide +kernel
theorem dX8_now_45 : decode cX8_now 45 = .ok (.getfield 39, 3) := by decide +kernel
theorem dX8_now_48 : decode cX8_now 48 = .ok (.getfield 155, 3) := by decide +kernel
theorem dX8_now_51 : decode cX8_now 51 = .ok (.ireturn, 1) := by decide +kernel
theorem dX8_now_52 : decode cX8_now 52 = .ok (.aload_n 0, 1) := by decide +kernel
theorem dX8_now_53 : decode cX8_now 53 = .ok (.getfield 39, 3) := by decide +kernel
theorem dX8_now_56 : decode cX8_now 56 = .ok (.getfield 192, 3) := by decide +kernel
theorem dX8_now_59 : decode cX8_now 59 = .ok (.ifCond .eq 7, 3) := by decide +kernel
theorem dX8_now_62 : decode cX8_now 62 = .ok (.iconst 1, 1) := by decide +kernel
theorem dX8_now_63 : decode cX8_now 63 = .ok (.goto 4, 3) := by decide +kernel
theorem dX8_now_66 : decode cX8_now 66 = .ok (.iconst 0, 1) := by decide +kernel
theorem dX8_now_67 : decode cX8_now 67 = .ok (.ireturn, 1) := by decide +kernel
theorem dX8_now_68 : decode cX8_now 68 = .ok (.aload_n 0, 1) := by decide +kernel
theorem dX8_now_69 : decode cX8_now 69 = .ok (.getfield 39, 3) := by decide +kernel
theorem dX8_now_72 : decode cX8_now 72 = .ok (.getfield 202, 3) := by decide +kernel
theorem dX8_now_75 : decode cX8_now 75 = .ok (.ireturn, 1) := by decide +kernel
theorem dX8_now_76 : decode cX8_now 76 = .ok (.aload_n 0, 1) := by decide +kernel
theorem dX8_now_77 : decode cX8_now 77 = .ok (.getfield 39, 3) := by decide +kernel
theorem dX8_now_80 : decode cX8_now 80 = .ok (.getfield 205, 3) := by decide +kernel
theorem dX8_now_83 : decode cX8_now 83 = .ok (.ireturn, 1) := by decide +kernel
theorem dX8_now_84 : decode cX8_now 84 = .ok (.aload_n 0, 1) := by decide +kernel
theorem dX8_now_85 : decode cX8_now 85 = .ok (.getfield 39, 3) := by decide +kernel
theorem dX8_now_88 : decode cX8_now 88 = .ok (.getfield 133, 3) := by decide +kernel
theorem dX8_now_91 : decode cX8_now 91 = .ok (.invokestatic 208, 3) := by decide +kernel
theorem dX8_now_94 : decode cX8_now 94 = .ok (.ireturn, 1) := by decide +kernel
theorem dX8_now_95 : decode cX8_now 95 = .ok (.aload_n 0, 1) := by decide +kernel
theorem dX8_now_96 : decode cX8_now 96 = .ok (.invokevirtual 195, 3) := by decide +kernel
theorem dX8_now_99 : decode cX8_now 99 = .ok (.ifCond .eq 7, 3) := by decide +kernel
theorem dX8_now_102 : decode cX8_now 102 = .ok (.iconst 1, 1) := by decide +kernel
theorem dX8_now_103 : decode cX8_now 103 = .ok (.goto 4, 3) := by decide +kernel
theorem dX8_now_106 : decode cX8_now 106 = .ok (.iconst 0, 1) := by decide +kernel
theorem dX8_now_107 : decode cX8_now 107 = .ok (.ireturn, 1) := by decide +kernel
theorem dX8_now_108 : decode cX8_now 108 = .ok (.aload_n 0, 1) := by decide +kernel
theorem dX8_now_109 : decode cX8_now 109 = .ok (.getfield 20, 3) := by decide +kernel
theorem dX8_now_112 : decode cX8_now 112 = .ok (.aload_n 0, 1) := by decide +kernel
theorem dX8_now_113 : decode cX8_now 113 = .ok (.getfield 39, 3) := by decide +kernel
theorem dX8_now_116 : decode cX8_now 116 = .ok (.getfield 133, 3) := by decide +kernel
theorem dX8_now_119 : decode cX8_now 119 = .ok (.invokevirtual 211, 3) := by decide +kernel
theorem dX8_now_122 : decode cX8_now 122 = .ok (.ireturn, 1) := by decide +kernel
theorem dX8_now_123 : decode cX8_now 123 = .ok (.iconst (-1), 1) := by decide +kernel
theorem dX8_now_124 : decode cX8_now 124 = .ok (.ireturn, 1) := by decide +kernel
theorem dX8_lot_0 : decode cX8_lot 0 = .ok (.aload_n 0, 1) := by decide +kernel
theorem dX8_lot_1 : decode cX8_lot 1 = .ok (.getfield 39, 3) := by decide +kernel
theorem dX8_lot_4 : decode cX8_lot 4 = .ok (.getfield 89, 3) := by decide +kernel
theorem dX8_lot_7 : decode cX8_lot 7 = .ok (.istore_n 2, 1) := by decide +kernel
theorem dX8_lot_8 : decode cX8_lot 8 = .ok (.aload_n 0, 1) := by decide +kernel
theorem dX8_lot_9 : decode cX8_lot 9 = .ok (.getfield 39, 3) := by decide +kernel
theorem dX8_lot_12 : decode cX8_lot 12 = .ok (.iload_n 1, 1) := by decide +kernel
theorem dX8_lot_13 : decode cX8_lot 13 = .ok (.putfield 89, 3) := by decide +kernel
theorem dX8_lot_16 : decode cX8_lot 16 = .ok (.iload_n 2, 1) := by decide +kernel
theorem dX8_lot_17 : decode cX8_lot 17 = .ok (.ireturn, 1) := by decide +kernel
theorem dX8_isRule_0 : decode cX8_isRule 0 = .ok (.iload_n 0, 1) := by decide +kernel
theorem dX8_isRule_1 : decode cX8_isRule 1 = .ok (.ifCond .lt 12, 3) := by decide +kernel
theorem dX8_isRule_4 : decode cX8_isRule 4 = .ok (.iload_n 0, 1) := by decide +kernel
theorem dX8_isRule_5 : decode cX8_isRule 5 = .ok (.iconst 4, 1) := by decide +kernel
theorem dX8_isRule_6 : decode cX8_isRule 6 = .ok (.if_icmp .gt 7, 3) := by decide +kernel
theorem dX8_isRule_9 : decode cX8_isRule 9 = .ok (.iconst 1, 1) := by decide +kernel
theorem dX8_isRule_10 : decode cX8_isRule 10 = .ok (.goto 4, 3) := by decide +kernel
theorem dX8_isRule_13 : decode cX8_isRule 13 = .ok (.iconst 0, 1) := by decide +kernel
theorem dX8_isRule_14 : decode cX8_isRule 14 = .ok (.ireturn, 1) := by decide +kernel
theorem dX8_outlookBy_0 : decode cX8_outlookBy 0 = .ok (.iload_n 1, 1) := by decide +kernel
theorem dX8_outlookBy_1 : decode cX8_outlookBy 1 = .ok (.iconst 4, 1) := by decide +kernel
theorem dX8_outlookBy_2 : decode cX8_outlookBy 2 = .ok (.if_icmp .ne 10, 3) := by decide +kernel
theorem dX8_outlookBy_5 : decode cX8_outlookBy 5 = .ok (.aload_n 0, 1) := by decide +kernel
theorem dX8_outlookBy_6 : decode cX8_outlookBy 6 = .ok (.getfield 54, 3) := by decide +kernel
theorem dX8_outlookBy_9 : decode cX8_outlookBy 9 = .ok (.goto 7, 3) := by decide +kernel
theorem dX8_outlookBy_12 : decode cX8_outlookBy 12 = .ok (.aload_n 0, 1) := by decide +kernel
theorem dX8_outlookBy_13 : decode cX8_outlookBy 13 = .ok (.getfield 58, 3) := by decide +kernel
theorem dX8_outlookBy_16 : decode cX8_outlookBy 16 = .ok (.astore_n 2, 1) := by decide +kernel
theorem dX8_outlookBy_17 : decode cX8_outlookBy 17 = .ok (.aload_n 2, 1) := by decide +kernel
theorem dX8_outlookBy_18 : decode cX8_outlookBy 18 = .ok (.iload_n 1, 1) := by decide +kernel
theorem dX8_outlookBy_19 : decode cX8_outlookBy 19 = .ok (.aload_n 0, 1) := by decide +kernel
theorem dX8_outlookBy_20 : decode cX8_outlookBy 20 = .ok (.getfield 39, 3) := by decide +kernel
theorem dX8_outlookBy_23 : decode cX8_outlookBy 23 = .ok (.getfield 146, 3) := by decide +kernel
theorem dX8_outlookBy_26 : decode cX8_outlookBy 26 = .ok (.invokevirtual 214, 3) := by decide +kernel
theorem dX8_outlookBy_29 : decode cX8_outlookBy 29 = .ok (.aload_n 2, 1) := by decide +kernel
theorem dX8_outlookBy_30 : decode cX8_outlookBy 30 = .ok (.areturn, 1) := by decide +kernel
theorem dX8_value_0 : decode cX8_value 0 = .ok (.iload_n 1, 1) := by decide +kernel
theorem dX8_value_1 : decode cX8_value 1 = .ok (.invokestatic 218, 3) := by decide +kernel
theorem dX8_value_4 : decode cX8_value 4 = .ok (.ifCond .eq 15, 3) := by decide +kernel
theorem dX8_value_7 : decode cX8_value 7 = .ok (.aload_n 0, 1) := by decide +kernel
theorem dX8_value_8 : decode cX8_value 8 = .ok (.aload_n 0, 1) := by decide +kernel
theorem dX8_value_9 : decode cX8_value 9 = .ok (.iload_n 1, 1) := by decide +kernel
theorem dX8_value_10 : decode cX8_value 10 = .ok (.invokevirtual 221, 3) := by decide +kernel
theorem dX8_value_13 : decode cX8_value 13 = .ok (.invokevirtual 225, 3) := by decide +kernel
theorem dX8_value_16 : decode cX8_value 16 = .ok (.goto 4, 3) := by decide +kernel
theorem dX8_value_19 : decode cX8_value 19 = .ok (.iconst (-1), 1) := by decide +kernel
theorem dX8_value_20 : decode cX8_value 20 = .ok (.ireturn, 1) := by decide +kernel
theorem dX8_valueNow_0 : decode cX8_valueNow 0 = .ok (.aload_n 0, 1) := by decide +kernel
theorem dX8_valueNow_1 : decode cX8_valueNow 1 = .ok (.getfield 39, 3) := by decide +kernel
theorem dX8_valueNow_4 : decode cX8_valueNow 4 = .ok (.getfield 133, 3) := by decide +kernel
theorem dX8_valueNow_7 : decode cX8_valueNow 7 = .ok (.invokestatic 229, 3) := by decide +kernel
theorem dX8_valueNow_10 : decode cX8_valueNow 10 = .ok (.istore_n 2, 1) := by decide +kernel
theorem dX8_valueNow_11 : decode cX8_valueNow 11 = .ok (.aload_n 0, 1) := by decide +kernel
theorem dX8_valueNow_12 : decode cX8_valueNow 12 = .ok (.getfield 39, 3) := by decide +kernel
theorem dX8_valueNow_15 : decode cX8_valueNow 15 = .ok (.getfield 192, 3) := by decide +kernel
theorem dX8_valueNow_18 : decode cX8_valueNow 18 = .ok (.ifCond .eq 16, 3) := by decide +kernel
theorem dX8_valueNow_21 : decode cX8_valueNow 21 = .ok (.aload_n 1, 1) := by decide +kernel
theorem dX8_valueNow_22 : decode cX8_valueNow 22 = .ok (.aload_n 0, 1) := by decide +kernel
theorem dX8_valueNow_23 : decode cX8_valueNow 23 = .ok (.getfield 39, 3) := by decide +kernel
theorem dX8_valueNow_26 : decode cX8_valueNow 26 = .ok (.getfield 155, 3) := by decide +kernel
theorem dX8_valueNow_29 : decode cX8_valueNow 29 = .ok (.iload_n 2, 1) := by decide +kernel
theorem dX8_valueNow_30 : decode cX8_valueNow 30 = .ok (.invokevirtual 232, 3) := by decide +kernel
theorem dX8_valueNow_33 : decode cX8_valueNow 33 = .ok (.ireturn, 1) := by decide +kernel
theorem dX8_valueNow_34 : decode cX8_valueNow 34 = .ok (.aload_n 1, 1) := by decide +kernel
theorem dX8_valueNow_35 : decode cX8_valueNow 35 = .ok (.aload_n 0, 1) := by decide +kernel
theorem dX8_valueNow_36 : decode cX8_valueNow 36 = .ok (.getfield 39, 3) := by decide +kernel
theorem dX8_valueNow_39 : decode cX8_valueNow 39 = .ok (.getfield 155, 3) := by decide +kernel
theorem dX8_valueNow_42 : decode cX8_valueNow 42 = .ok (.iload_n 2, 1) := by decide +kernel
theorem dX8_valueNow_43 : decode cX8_valueNow 43 = .ok (.invokevirtual 235, 3) := by decide +kernel
theorem dX8_valueNow_46 : decode cX8_valueNow 46 = .ok (.ireturn, 1) := by decide +kernel
theorem dX8_left_0 : decode cX8_left 0 = .ok (.iload_n 1, 1) := by decide +kernel
theorem dX8_left_1 : decode cX8_left 1 = .ok (.invokestatic 218, 3) := by decide +kernel
theorem dX8_left_4 : decode cX8_left 4 = .ok (.ifCond .ne 5, 3) := by decide +kernel
theorem dX8_left_7 : decode cX8_left 7 = .ok (.iconst (-1), 1) := by decide +kernel
theorem dX8_left_8 : decode cX8_left 8 = .ok (.ireturn, 1) := by decide +kernel
theorem dX8_left_9 : decode cX8_left 9 = .ok (.aload_n 0, 1) := by decide +kernel
theorem dX8_left_10 : decode cX8_left 10 = .ok (.getfield 39, 3) := by decide +kernel
theorem dX8_left_13 : decode cX8_left 13 = .ok (.getfield 133, 3) := by decide +kernel
theorem dX8_left_16 : decode cX8_left 16 = .ok (.invokestatic 229, 3) := by decide +kernel
theorem dX8_left_19 : decode cX8_left 19 = .ok (.istore_n 2, 1) := by decide +kernel
theorem dX8_left_20 : decode cX8_left 20 = .ok (.aload_n 0, 1) := by decide +kernel
theorem dX8_left_21 : decode cX8_left 21 = .ok (.getfield 39, 3) := by decide +kernel
theorem dX8_left_24 : decode cX8_left 24 = .ok (.getfield 192, 3) := by decide +kernel
theorem dX8_left_27 : decode cX8_left 27 = .ok (.ifCond .eq 20, 3) := by decide +kernel
theorem dX8_left_30 : decode cX8_left 30 = .ok (.aload_n 0, 1) := by decide +kernel
theorem dX8_left_31 : decode cX8_left 31 = .ok (.iload_n 1, 1) := by decide +kernel
theorem dX8_left_32 : decode cX8_left 32 = .ok (.invokevirtual 221, 3) := by decide +kernel
theorem dX8_left_35 : decode cX8_left 35 = .ok (.aload_n 0, 1) := by decide +kernel
theorem dX8_left_36 : decode cX8_left 36 = .ok (.getfield 39, 3) := by decide +kernel
theorem dX8_left_39 : decode cX8_left 39 = .ok (.getfield 155, 3) := by decide +kernel
theorem dX8_left_42 : decode cX8_left 42 = .ok (.iload_n 2, 1) := by decide +kernel
theorem dX8_left_43 : decode cX8_left 43 = .ok (.invokevirtual 238, 3) := by decide +kernel
theorem dX8_left_46 : decode cX8_left 46 = .ok (.ireturn, 1) := by decide +kernel
theorem dX8_left_47 : decode cX8_left 47 = .ok (.aload_n 0, 1) := by decide +kernel
theorem dX8_left_48 : decode cX8_left 48 = .ok (.iload_n 1, 1) := by decide +kernel
theorem dX8_left_49 : decode cX8_left 49 = .ok (.invokevirtual 221, 3) := by decide +kernel
theorem dX8_left_52 : decode cX8_left 52 = .ok (.aload_n 0, 1) := by decide +kernel
theorem dX8_left_53 : decode cX8_left 53 = .ok (.getfield 39, 3) := by decide +kernel
theorem dX8_left_56 : decode cX8_left 56 = .ok (.getfield 155, 3) := by decide +kernel
theorem dX8_left_59 : decode cX8_left 59 = .ok (.iload_n 2, 1) := by decide +kernel
theorem dX8_left_60 : decode cX8_left 60 = .ok (.invokevirtual 241, 3) := by decide +kernel
theorem dX8_left_63 : decode cX8_left 63 = .ok (.ireturn, 1) := by decide +kernel
theorem dX8_choice_0 : decode cX8_choice 0 = .ok (.iload_n 1, 1) := by decide +kernel
theorem dX8_choice_1 : decode cX8_choice 1 = .ok (.invokestatic 218, 3) := by decide +kernel
theorem dX8_choice_4 : decode cX8_choice 4 = .ok (.ifCond .eq 11, 3) := by decide +kernel
theorem dX8_choice_7 : decode cX8_choice 7 = .ok (.aload_n 0, 1) := by decide +kernel
theorem dX8_choice_8 : decode cX8_choice 8 = .ok (.iload_n 1, 1) := by decide +kernel
theorem dX8_choice_9 : decode cX8_choice 9 = .ok (.invokevirtual 244, 3) := by decide +kernel
theorem dX8_choice_12 : decode cX8_choice 12 = .ok (.goto 4, 3) := by decide +kernel
theorem dX8_choice_15 : decode cX8_choice 15 = .ok (.iconst (-1), 1) := by decide +kernel
theorem dX8_choice_16 : decode cX8_choice 16 = .ok (.ireturn, 1) := by decide +kernel
theorem dX8_choiceNow_0 : decode cX8_choiceNow 0 = .ok (.aload_n 0, 1) := by decide +kernel
theorem dX8_choiceNow_1 : decode cX8_choiceNow 1 = .ok (.invokevirtual 178, 3) := by decide +kernel
theorem dX8_choiceNow_4 : decode cX8_choiceNow 4 = .ok (.ifCond .eq 31, 3) := by decide +kernel
theorem dX8_choiceNow_7 : decode cX8_choiceNow 7 = .ok (.aload_n 0, 1) := by decide +kernel
theorem dX8_choiceNow_8 : decode cX8_choiceNow 8 = .ok (.iload_n 1, 1) := by decide +kernel
theorem dX8_choiceNow_9 : decode cX8_choiceNow 9 = .ok (.invokevirtual 221, 3) := by decide +kernel
theorem dX8_choiceNow_12 : decode cX8_choiceNow 12 = .ok (.aload_n 0, 1) := by decide +kernel
theorem dX8_choiceNow_13 : decode cX8_choiceNow 13 = .ok (.getfield 39, 3) := by decide +kernel
theorem dX8_choiceNow_16 : decode cX8_choiceNow 16 = .ok (.getfield 155, 3) := by decide +kernel
theorem dX8_choiceNow_19 : decode cX8_choiceNow 19 = .ok (.aload_n 0, 1) := by decide +kernel
theorem dX8_choiceNow_20 : decode cX8_choiceNow 20 = .ok (.getfield 39, 3) := by decide +kernel
theorem dX8_choiceNow_23 : decode cX8_choiceNow 23 = .ok (.getfield 133, 3) := by decide +kernel
theorem dX8_choiceNow_26 : decode cX8_choiceNow 26 = .ok (.invokestatic 229, 3) := by decide +kernel
theorem dX8_choiceNow_29 : decode cX8_choiceNow 29 = .ok (.invokevirtual 247, 3) := by decide +kernel
theorem dX8_choiceNow_32 : decode cX8_choiceNow 32 = .ok (.goto 5, 3) := by decide +kernel
theorem dX8_choiceNow_35 : decode cX8_choiceNow 35 = .ok (.bipush 6, 2) := by decide +kernel
theorem dX8_choiceNow_37 : decode cX8_choiceNow 37 = .ok (.ireturn, 1) := by decide +kernel
theorem dX8_brings_0 : decode cX8_brings 0 = .ok (.iload_n 1, 1) := by decide +kernel
theorem dX8_brings_1 : decode cX8_brings 1 = .ok (.ifCond .lt 9, 3) := by decide +kernel
theorem dX8_brings_4 : decode cX8_brings 4 = .ok (.iload_n 1, 1) := by decide +kernel
theorem dX8_brings_5 : decode cX8_brings 5 = .ok (.bipush 6, 2) := by decide +kernel
theorem dX8_brings_7 : decode cX8_brings 7 = .ok (.if_icmp .le 6, 3) := by decide +kernel
theorem dX8_brings_10 : decode cX8_brings 10 = .ok (.ldc 250, 2) := by decide +kernel
theorem dX8_brings_12 : decode cX8_brings 12 = .ok (.ireturn, 1) := by decide +kernel
theorem dX8_brings_13 : decode cX8_brings 13 = .ok (.iload_n 1, 1) := by decide +kernel
theorem dX8_brings_14 : decode cX8_brings 14 = .ok (.bipush 6, 2) := by decide +kernel
theorem dX8_brings_16 : decode cX8_brings 16 = .ok (.if_icmp .eq 31, 3) := by decide +kernel
theorem dX8_brings_19 : decode cX8_brings 19 = .ok (.aload_n 0, 1) := by decide +kernel
theorem dX8_brings_20 : decode cX8_brings 20 = .ok (.invokevirtual 178, 3) := by decide +kernel
theorem dX8_brings_23 : decode cX8_brings 23 = .ok (.ifCond .eq 21, 3) := by decide +kernel
theorem dX8_brings_26 : decode cX8_brings 26 = .ok (.aload_n 0, 1) := by decide +kernel
theorem dX8_brings_27 : decode cX8_brings 27 = .ok (.getfield 20, 3) := by decide +kernel
theorem dX8_brings_30 : decode cX8_brings 30 = .ok (.aload_n 0, 1) := by decide +kernel
theorem dX8_brings_31 : decode cX8_brings 31 = .ok (.getfield 39, 3) := by decide +kernel
theorem dX8_brings_34 : decode cX8_brings 34 = .ok (.getfield 133, 3) := by decide +kernel
theorem dX8_brings_37 : decode cX8_brings 37 = .ok (.iload_n 1, 1) := by decide +kernel
theorem dX8_brings_38 : decode cX8_brings 38 = .ok (.invokevirtual 182, 3) := by decide +kernel
theorem dX8_brings_41 : decode cX8_brings 41 = .ok (.ifCond .ne 6, 3) := by decide +kernel
theorem dX8_brings_44 : decode cX8_brings 44 = .ok (.ldc 250, 2) := by decide +kernel
theorem dX8_brings_46 : decode cX8_brings 46 = .ok (.ireturn, 1) := by decide +kernel
theorem dX8_brings_47 : decode cX8_brings 47 = .ok (.aload_n 0, 1) := by decide +kernel
theorem dX8_brings_48 : decode cX8_brings 48 = .ok (.iconst 4, 1) := by decide +kernel
theorem dX8_brings_49 : decode cX8_brings 49 = .ok (.invokevirtual 221, 3) := by decide +kernel
theorem dX8_brings_52 : decode cX8_brings 52 = .ok (.aload_n 0, 1) := by decide +kernel
theorem dX8_brings_53 : decode cX8_brings 53 = .ok (.getfield 39, 3) := by decide +kernel
theorem dX8_brings_56 : decode cX8_brings 56 = .ok (.getfield 155, 3) := by decide +kernel
theorem dX8_brings_59 : decode cX8_brings 59 = .ok (.aload_n 0, 1) := by decide +kernel
theorem dX8_brings_60 : decode cX8_brings 60 = .ok (.getfield 39, 3) := by decide +kernel
theorem dX8_brings_63 : decode cX8_brings 63 = .ok (.getfield 133, 3) := by decide +kernel
theorem dX8_brings_66 : decode cX8_brings 66 = .ok (.invokestatic 229, 3) := by decide +kernel
theorem dX8_brings_69 : decode cX8_brings 69 = .ok (.iload_n 1, 1) := by decide +kernel
theorem dX8_brings_70 : decode cX8_brings 70 = .ok (.invokevirtual 251, 3) := by decide +kernel
theorem dX8_brings_73 : decode cX8_brings 73 = .ok (.ireturn, 1) := by decide +kernel
theorem dX8_play_0 : decode cX8_play 0 = .ok (.iload_n 1, 1) := by decide +kernel
theorem dX8_play_1 : decode cX8_play 1 = .ok (.invokestatic 218, 3) := by decide +kernel
theorem dX8_play_4 : decode cX8_play 4 = .ok (.ifCond .ne 5, 3) := by decide +kernel
theorem dX8_play_7 : decode cX8_play 7 = .ok (.iconst (-1), 1) := by decide +kernel
theorem dX8_play_8 : decode cX8_play 8 = .ok (.ireturn, 1) := by decide +kernel
theorem dX8_play_9 : decode cX8_play 9 = .ok (.iconst 0, 1) := by decide +kernel
theorem dX8_play_10 : decode cX8_play 10 = .ok (.istore_n 2, 1) := by decide +kernel
theorem dX8_play_11 : decode cX8_play 11 = .ok (.iconst 0, 1) := by decide +kernel
theorem dX8_play_12 : decode cX8_play 12 = .ok (.istore_n 3, 1) := by decide +kernel
theorem dX8_play_13 : decode cX8_play 13 = .ok (.iload_n 3, 1) := by decide +kernel
theorem dX8_play_14 : decode cX8_play 14 = .ok (.bipush 8, 2) := by decide +kernel
theorem dX8_play_16 : decode cX8_play 16 = .ok (.if_icmp .ge 47, 3) := by decide +kernel
theorem dX8_play_19 : decode cX8_play 19 = .ok (.aload_n 0, 1) := by decide +kernel
theorem dX8_play_20 : decode cX8_play 20 = .ok (.invokevirtual 195, 3) := by decide +kernel
theorem dX8_play_23 : decode cX8_play 23 = .ok (.ifCond .ne 40, 3) := by decide +kernel
theorem dX8_play_26 : decode cX8_play 26 = .ok (.iload_n 2, 1) := by decide +kernel
theorem dX8_play_27 : decode cX8_play 27 = .ok (.aload_n 0, 1) := by decide +kernel
theorem dX8_play_28 : decode cX8_play 28 = .ok (.getfield 39, 3) := by decide +kernel
theorem dX8_play_31 : decode cX8_play 31 = .ok (.aload_n 0, 1) := by decide +kernel
theorem dX8_play_32 : decode cX8_play 32 = .ok (.getfield 20, 3) := by decide +kernel
theorem dX8_play_35 : decode cX8_play 35 = .ok (.aload_n 0, 1) := by decide +kernel
theorem dX8_play_36 : decode cX8_play 36 = .ok (.iload_n 1, 1) := by decide +kernel
theorem dX8_play_37 : decode cX8_play 37 = .ok (.invokevirtual 244, 3) := by decide +kernel
theorem dX8_play_40 : decode cX8_play 40 = .ok (.invokevirtual 185, 3) := by decide +kernel
theorem dX8_play_43 : decode cX8_play 43 = .ok (.iadd, 1) := by decide +kernel
theorem dX8_play_44 : decode cX8_play 44 = .ok (.istore_n 2, 1) := by decide +kernel
theorem dX8_play_45 : decode cX8_play 45 = .ok (.aload_n 0, 1) := by decide +kernel
theorem dX8_play_46 : decode cX8_play 46 = .ok (.getfield 39, 3) := by decide +kernel
theorem dX8_play_49 : decode cX8_play 49 = .ok (.aload_n 0, 1) := by decide +kernel
theorem dX8_play_50 : decode cX8_play 50 = .ok (.getfield 20, 3) := by decide +kernel
theorem dX8_play_53 : decode cX8_play 53 = .ok (.invokevirtual 198, 3) := by decide +kernel
theorem dX8_play_56 : decode cX8_play 56 = .ok (.pop, 1) := by decide +kernel
theorem dX8_play_57 : decode cX8_play 57 = .ok (.iinc 3 1, 3) := by decide +kernel
theorem dX8_play_60 : decode cX8_play 60 = .ok (.goto (-47), 3) := by decide +kernel
theorem dX8_play_63 : decode cX8_play 63 = .ok (.iload_n 2, 1) := by decide +kernel
theorem dX8_play_64 : decode cX8_play 64 = .ok (.ireturn, 1) := by decide +kernel
theorem dX8_blind_0 : decode cX8_blind 0 = .ok (.iload_n 1, 1) := by decide +kernel
theorem dX8_blind_1 : decode cX8_blind 1 = .ok (.bipush (-2), 2) := by decide +kernel
theorem dX8_blind_3 : decode cX8_blind 3 = .ok (.if_icmp .ge 6, 3) := by decide +kernel
theorem dX8_blind_6 : decode cX8_blind 6 = .ok (.ldc 250, 2) := by decide +kernel
theorem dX8_blind_8 : decode cX8_blind 8 = .ok (.ireturn, 1) := by decide +kernel
theorem dX8_blind_9 : decode cX8_blind 9 = .ok (.aload_n 0, 1) := by decide +kernel
theorem dX8_blind_10 : decode cX8_blind 10 = .ok (.getfield 64, 3) := by decide +kernel
theorem dX8_blind_13 : decode cX8_blind 13 = .ok (.aload_n 0, 1) := by decide +kernel
theorem dX8_blind_14 : decode cX8_blind 14 = .ok (.getfield 39, 3) := by decide +kernel
theorem dX8_blind_17 : decode cX8_blind 17 = .ok (.invokevirtual 254, 3) := by decide +kernel
theorem dX8_blind_20 : decode cX8_blind 20 = .ok (.iload_n 1, 1) := by decide +kernel
theorem dX8_blind_21 : decode cX8_blind 21 = .ok (.iconst (-1), 1) := by decide +kernel
theorem dX8_blind_22 : decode cX8_blind 22 = .ok (.if_icmp .ne 11, 3) := by decide +kernel
theorem dX8_blind_25 : decode cX8_blind 25 = .ok (.aload_n 0, 1) := by decide +kernel
theorem dX8_blind_26 : decode cX8_blind 26 = .ok (.getfield 64, 3) := by decide +kernel
theorem dX8_blind_29 : decode cX8_blind 29 = .ok (.getfield 258, 3) := by decide +kernel
theorem dX8_blind_32 : decode cX8_blind 32 = .ok (.ireturn, 1) := by decide +kernel
theorem dX8_blind_33 : decode cX8_blind 33 = .ok (.iload_n 1, 1) := by decide +kernel
theorem dX8_blind_34 : decode cX8_blind 34 = .ok (.bipush (-2), 2) := by decide +kernel
theorem dX8_blind_36 : decode cX8_blind 36 = .ok (.if_icmp .ne 11, 3) := by decide +kernel
theorem dX8_blind_39 : decode cX8_blind 39 = .ok (.aload_n 0, 1) := by decide +kernel
theorem dX8_blind_40 : decode cX8_blind 40 = .ok (.getfield 64, 3) := by decide +kernel
theorem dX8_blind_43 : decode cX8_blind 43 = .ok (.getfield 260, 3) := by decide +kernel
theorem dX8_blind_46 : decode cX8_blind 46 = .ok (.ireturn, 1) := by decide +kernel
theorem dX8_blind_47 : decode cX8_blind 47 = .ok (.iload_n 1, 1) := by decide +kernel
theorem dX8_blind_48 : decode cX8_blind 48 = .ok (.aload_n 0, 1) := by decide +kernel
theorem dX8_blind_49 : decode cX8_blind 49 = .ok (.getfield 64, 3) := by decide +kernel
theorem dX8_blind_52 : decode cX8_blind 52 = .ok (.getfield 260, 3) := by decide +kernel
theorem dX8_blind_55 : decode cX8_blind 55 = .ok (.if_icmp .ge 14, 3) := by decide +kernel
theorem dX8_blind_58 : decode cX8_blind 58 = .ok (.aload_n 0, 1) := by decide +kernel
theorem dX8_blind_59 : decode cX8_blind 59 = .ok (.getfield 64, 3) := by decide +kernel
theorem dX8_blind_62 : decode cX8_blind 62 = .ok (.iload_n 1, 1) := by decide +kernel
theorem dX8_blind_63 : decode cX8_blind 63 = .ok (.invokevirtual 263, 3) := by decide +kernel
theorem dX8_blind_66 : decode cX8_blind 66 = .ok (.goto 5, 3) := by decide +kernel
theorem dX8_blind_69 : decode cX8_blind 69 = .ok (.ldc 250, 2) := by decide +kernel
theorem dX8_blind_71 : decode cX8_blind 71 = .ok (.ireturn, 1) := by decide +kernel
theorem dX8_know_0 : decode cX8_know 0 = .ok (.aload_n 0, 1) := by decide +kernel
theorem dX8_know_1 : decode cX8_know 1 = .ok (.getfield 64, 3) := by decide +kernel
theorem dX8_know_4 : decode cX8_know 4 = .ok (.aload_n 0, 1) := by decide +kernel
theorem dX8_know_5 : decode cX8_know 5 = .ok (.getfield 39, 3) := by decide +kernel
theorem dX8_know_8 : decode cX8_know 8 = .ok (.invokevirtual 254, 3) := by decide +kernel
theorem dX8_know_11 : decode cX8_know 11 = .ok (.aload_n 0, 1) := by decide +kernel
theorem dX8_know_12 : decode cX8_know 12 = .ok (.aload_n 0, 1) := by decide +kernel
theorem dX8_know_13 : decode cX8_know 13 = .ok (.iconst 4, 1) := by decide +kernel
theorem dX8_know_14 : decode cX8_know 14 = .ok (.invokevirtual 221, 3) := by decide +kernel
theorem dX8_know_17 : decode cX8_know 17 = .ok (.invokevirtual 225, 3) := by decide +kernel
theorem dX8_know_20 : decode cX8_know 20 = .ok (.aload_n 0, 1) := by decide +kernel
theorem dX8_know_21 : decode cX8_know 21 = .ok (.getfield 64, 3) := by decide +kernel
theorem dX8_know_24 : decode cX8_know 24 = .ok (.getfield 258, 3) := by decide +kernel
theorem dX8_know_27 : decode cX8_know 27 = .ok (.isub, 1) := by decide +kernel
theorem dX8_know_28 : decode cX8_know 28 = .ok (.ireturn, 1) := by decide +kernel
theorem dX8_spare_0 : decode cX8_spare 0 = .ok (.aload_n 0, 1) := by decide +kernel
theorem dX8_spare_1 : decode cX8_spare 1 = .ok (.getfield 20, 3) := by decide +kernel
theorem dX8_spare_4 : decode cX8_spare 4 = .ok (.iload_n 1, 1) := by decide +kernel
theorem dX8_spare_5 : decode cX8_spare 5 = .ok (.invokevirtual 124, 3) := by decide +kernel
theorem dX8_spare_8 : decode cX8_spare 8 = .ok (.ifCond .ne 6, 3) := by decide +kernel
theorem dX8_spare_11 : decode cX8_spare 11 = .ok (.ldc 250, 2) := by decide +kernel
theorem dX8_spare_13 : decode cX8_spare 13 = .ok (.ireturn, 1) := by decide +kernel
theorem dX8_spare_14 : decode cX8_spare 14 = .ok (.aload_n 0, 1) := by decide +kernel
theorem dX8_spare_15 : decode cX8_spare 15 = .ok (.getfield 58, 3) := by decide +kernel
theorem dX8_spare_18 : decode cX8_spare 18 = .ok (.iconst 4, 1) := by decide +kernel
theorem dX8_spare_19 : decode cX8_spare 19 = .ok (.aload_n 0, 1) := by decide +kernel
theorem dX8_spare_20 : decode cX8_spare 20 = .ok (.getfield 39, 3) := by decide +kernel
theorem dX8_spare_23 : decode cX8_spare 23 = .ok (.getfield 146, 3) := by decide +kernel
theorem dX8_spare_26 : decode cX8_spare 26 = .ok (.iconst 1, 1) := by decide +kernel
theorem dX8_spare_27 : decode cX8_spare 27 = .ok (.iload_n 1, 1) := by decide +kernel
theorem dX8_spare_28 : decode cX8_spare 28 = .ok (.ishl, 1) := by decide +kernel
theorem dX8_spare_29 : decode cX8_spare 29 = .ok (.ior, 1) := by decide +kernel
theorem dX8_spare_30 : decode cX8_spare 30 = .ok (.invokevirtual 214, 3) := by decide +kernel
theorem dX8_spare_33 : decode cX8_spare 33 = .ok (.aload_n 0, 1) := by decide +kernel
theorem dX8_spare_34 : decode cX8_spare 34 = .ok (.aload_n 0, 1) := by decide +kernel
theorem dX8_spare_35 : decode cX8_spare 35 = .ok (.getfield 58, 3) := by decide +kernel
theorem dX8_spare_38 : decode cX8_spare 38 = .ok (.invokevirtual 225, 3) := by decide +kernel
theorem dX8_spare_41 : decode cX8_spare 41 = .ok (.aload_n 0, 1) := by decide +kernel
theorem dX8_spare_42 : decode cX8_spare 42 = .ok (.aload_n 0, 1) := by decide +kernel
theorem dX8_spare_43 : decode cX8_spare 43 = .ok (.iconst 4, 1) := by decide +kernel
theorem dX8_spare_44 : decode cX8_spare 44 = .ok (.invokevirtual 221, 3) := by decide +kernel
theorem dX8_spare_47 : decode cX8_spare 47 = .ok (.invokevirtual 225, 3) := by decide +kernel
theorem dX8_spare_50 : decode cX8_spare 50 = .ok (.isub, 1) := by decide +kernel
theorem dX8_spare_51 : decode cX8_spare 51 = .ok (.ireturn, 1) := by decide +kernel
theorem dX8_stands_0 : decode cX8_stands 0 = .ok (.aload_n 0, 1) := by decide +kernel
theorem dX8_stands_1 : decode cX8_stands 1 = .ok (.getfield 20, 3) := by decide +kernel
theorem dX8_stands_4 : decode cX8_stands 4 = .ok (.iload_n 1, 1) := by decide +kernel
theorem dX8_stands_5 : decode cX8_stands 5 = .ok (.invokevirtual 124, 3) := by decide +kernel
theorem dX8_stands_8 : decode cX8_stands 8 = .ok (.ifCond .eq 13, 3) := by decide +kernel
theorem dX8_stands_11 : decode cX8_stands 11 = .ok (.iload_n 2, 1) := by decide +kernel
theorem dX8_stands_12 : decode cX8_stands 12 = .ok (.ifCond .lt 9, 3) := by decide +kernel
theorem dX8_stands_15 : decode cX8_stands 15 = .ok (.iload_n 2, 1) := by decide +kernel
theorem dX8_stands_16 : decode cX8_stands 16 = .ok (.bipush 8, 2) := by decide +kernel
theorem dX8_stands_18 : decode cX8_stands 18 = .ok (.if_icmp .le 7, 3) := by decide +kernel
theorem dX8_stands_21 : decode cX8_stands 21 = .ok (.ldc2_w 266, 3) := by decide +kernel
theorem dX8_stands_24 : decode cX8_stands 24 = .ok (.lreturn, 1) := by decide +kernel
theorem dX8_stands_25 : decode cX8_stands 25 = .ok (.iload_n 3, 1) := by decide +kernel
theorem dX8_stands_26 : decode cX8_stands 26 = .ok (.ifCond .lt 19, 3) := by decide +kernel
theorem dX8_stands_29 : decode cX8_stands 29 = .ok (.iload_n 3, 1) := by decide +kernel
theorem dX8_stands_30 : decode cX8_stands 30 = .ok (.iconst 3, 1) := by decide +kernel
theorem dX8_stands_31 : decode cX8_stands 31 = .ok (.if_icmp .gt 14, 3) := by decide +kernel
theorem dX8_stands_34 : decode cX8_stands 34 = .ok (.iload 4, 2) := by decide +kernel
theorem dX8_stands_36 : decode cX8_stands 36 = .ok (.ifCond .lt 9, 3) := by decide +kernel
theorem dX8_stands_39 : decode cX8_stands 39 = .ok (.iload 4, 2) := by decide +kernel
theorem dX8_stands_41 : decode cX8_stands 41 = .ok (.iconst 1, 1) := by decide +kernel
theorem dX8_stands_42 : decode cX8_stands 42 = .ok (.if_icmp .le 7, 3) := by decide +kernel
theorem dX8_stands_45 : decode cX8_stands 45 = .ok (.ldc2_w 266, 3) := by decide +kernel
theorem dX8_stands_48 : decode cX8_stands 48 = .ok (.lreturn, 1) := by decide +kernel
theorem dX8_stands_49 : decode cX8_stands 49 = .ok (.aload_n 0, 1) := by decide +kernel
theorem dX8_stands_50 : decode cX8_stands 50 = .ok (.getfield 71, 3) := by decide +kernel
theorem dX8_stands_53 : decode cX8_stands 53 = .ok (.aload_n 0, 1) := by decide +kernel
theorem dX8_stands_54 : decode cX8_stands 54 = .ok (.getfield 39, 3) := by decide +kernel
theorem dX8_stands_57 : decode cX8_stands 57 = .ok (.getfield 133, 3) := by decide +kernel
theorem dX8_stands_60 : decode cX8_stands 60 = .ok (.iload_n 1, 1) := by decide +kernel
theorem dX8_stands_61 : decode cX8_stands 61 = .ok (.invokestatic 136, 3) := by decide +kernel
theorem dX8_stands_64 : decode cX8_stands 64 = .ok (.invokevirtual 268, 3) := by decide +kernel
theorem dX8_stands_67 : decode cX8_stands 67 = .ok (.aload_n 0, 1) := by decide +kernel
theorem dX8_stands_68 : decode cX8_stands 68 = .ok (.getfield 20, 3) := by decide +kernel
theorem dX8_stands_71 : decode cX8_stands 71 = .ok (.aload_n 0, 1) := by decide +kernel
theorem dX8_stands_72 : decode cX8_stands 72 = .ok (.getfield 39, 3) := by decide +kernel
theorem dX8_stands_75 : decode cX8_stands 75 = .ok (.getfield 133, 3) := by decide +kernel
theorem dX8_stands_78 : decode cX8_stands 78 = .ok (.aload_n 0, 1) := by decide +kernel
theorem dX8_stands_79 : decode cX8_stands 79 = .ok (.getfield 39, 3) := by decide +kernel
theorem dX8_stands_82 : decode cX8_stands 82 = .ok (.getfield 146, 3) := by decide +kernel
theorem dX8_stands_85 : decode cX8_stands 85 = .ok (.iload_n 1, 1) := by decide +kernel
theorem dX8_stands_86 : decode cX8_stands 86 = .ok (.invokevirtual 271, 3) := by decide +kernel
theorem dX8_stands_89 : decode cX8_stands 89 = .ok (.ifCond .eq 74, 3) := by decide +kernel
theorem dX8_stands_92 : decode cX8_stands 92 = .ok (.aload_n 0, 1) := by decide +kernel
theorem dX8_stands_93 : decode cX8_stands 93 = .ok (.getfield 20, 3) := by decide +kernel
theorem dX8_stands_96 : decode cX8_stands 96 = .ok (.aload_n 0, 1) := by decide +kernel
theorem dX8_stands_97 : decode cX8_stands 97 = .ok (.getfield 39, 3) := by decide +kernel
theorem dX8_stands_100 : decode cX8_stands 100 = .ok (.getfield 133, 3) := by decide +kernel
theorem dX8_stands_103 : decode cX8_stands 103 = .ok (.iload_n 1, 1) := by decide +kernel
theorem dX8_stands_104 : decode cX8_stands 104 = .ok (.invokevirtual 275, 3) := by decide +kernel
theorem dX8_stands_107 : decode cX8_stands 107 = .ok (.ifCond .ne 7, 3) := by decide +kernel
theorem dX8_stands_110 : decode cX8_stands 110 = .ok (.iconst 1, 1) := by decide +kernel
theorem dX8_stands_111 : decode cX8_stands 111 = .ok (.goto 4, 3) := by decide +kernel
theorem dX8_stands_114 : decode cX8_stands 114 = .ok (.iconst 0, 1) := by decide +kernel
theorem dX8_stands_115 : decode cX8_stands 115 = .ok (.istore 5, 2) := by decide +kernel
theorem dX8_stands_117 : decode cX8_stands 117 = .ok (.iconst 0, 1) := by decide +kernel
theorem dX8_stands_118 : decode cX8_stands 118 = .ok (.istore 6, 2) := by decide +kernel
theorem dX8_stands_120 : decode cX8_stands 120 = .ok (.iload 6, 2) := by decide +kernel
theorem dX8_stands_122 : decode cX8_stands 122 = .ok (.iload_n 2, 1) := by decide +kernel
theorem dX8_stands_123 : decode cX8_stands 123 = .ok (.if_icmp .ge 40, 3) := by decide +kernel
theorem dX8_stands_126 : decode cX8_stands 126 = .ok (.aload_n 0, 1) := by decide +kernel
theorem dX8_stands_127 : decode cX8_stands 127 = .ok (.getfield 71, 3) := by decide +kernel
theorem dX8_stands_130 : decode cX8_stands 130 = .ok (.aload_n 0, 1) := by decide +kernel
theorem dX8_stands_131 : decode cX8_stands 131 = .ok (.getfield 20, 3) := by decide +kernel
theorem dX8_stands_134 : decode cX8_stands 134 = .ok (.aload_n 0, 1) := by decide +kernel
theorem dX8_stands_135 : decode cX8_stands 135 = .ok (.getfield 20, 3) := by decide +kernel
theorem dX8_stands_138 : decode cX8_stands 138 = .ok (.iload_n 1, 1) := by decide +kernel
theorem dX8_stands_139 : decode cX8_stands 139 = .ok (.invokevirtual 127, 3) := by decide +kernel
theorem dX8_stands_142 : decode cX8_stands 142 = .ok (.iload 5, 2) := by decide +kernel
theorem dX8_stands_144 : decode cX8_stands 144 = .ok (.aload_n 0, 1) := by decide +kernel
theorem dX8_stands_145 : decode cX8_stands 145 = .ok (.getfield 39, 3) := by decide +kernel
theorem dX8_stands_148 : decode cX8_stands 148 = .ok (.getfield 155, 3) := by decide +kernel
theorem dX8_stands_151 : decode cX8_stands 151 = .ok (.iload 6, 2) := by decide +kernel
theorem dX8_stands_153 : decode cX8_stands 153 = .ok (.iadd, 1) := by decide +kernel
theorem dX8_stands_154 : decode cX8_stands 154 = .ok (.invokevirtual 278, 3) := by decide +kernel
theorem dX8_stands_157 : decode cX8_stands 157 = .ok (.iinc 6 1, 3) := by decide +kernel
theorem dX8_stands_160 : decode cX8_stands 160 = .ok (.goto (-40), 3) := by decide +kernel
theorem dX8_stands_163 : decode cX8_stands 163 = .ok (.aload_n 0, 1) := by decide +kernel
theorem dX8_stands_164 : decode cX8_stands 164 = .ok (.getfield 71, 3) := by decide +kernel
theorem dX8_stands_167 : decode cX8_stands 167 = .ok (.iload_n 3, 1) := by decide +kernel
theorem dX8_stands_168 : decode cX8_stands 168 = .ok (.invokevirtual 282, 3) := by decide +kernel
theorem dX8_stands_171 : decode cX8_stands 171 = .ok (.aload_n 0, 1) := by decide +kernel
theorem dX8_stands_172 : decode cX8_stands 172 = .ok (.getfield 71, 3) := by decide +kernel
theorem dX8_stands_175 : decode cX8_stands 175 = .ok (.invokevirtual 286, 3) := by decide +kernel
theorem dX8_stands_178 : decode cX8_stands 178 = .ok (.iload 4, 2) := by decide +kernel
theorem dX8_stands_180 : decode cX8_stands 180 = .ok (.invokestatic 290, 3) := by decide +kernel
theorem dX8_stands_183 : decode cX8_stands 183 = .ok (.lreturn, 1) := by decide +kernel
theorem dX8_thought_0 : decode cX8_thought 0 = .ok (.aload_n 0, 1) := by decide +kernel
theorem dX8_thought_1 : decode cX8_thought 1 = .ok (.getfield 20, 3) := by decide +kernel
theorem dX8_thought_4 : decode cX8_thought 4 = .ok (.iload_n 1, 1) := by decide +kernel
theorem dX8_thought_5 : decode cX8_thought 5 = .ok (.invokevirtual 116, 3) := by decide +kernel
theorem dX8_thought_8 : decode cX8_thought 8 = .ok (.ifCond .ne 5, 3) := by decide +kernel
theorem dX8_thought_11 : decode cX8_thought 11 = .ok (.iconst (-1), 1) := by decide +kernel
theorem dX8_thought_12 : decode cX8_thought 12 = .ok (.ireturn, 1) := by decide +kernel
theorem dX8_thought_13 : decode cX8_thought 13 = .ok (.aload_n 0, 1) := by decide +kernel
theorem dX8_thought_14 : decode cX8_thought 14 = .ok (.getfield 78, 3) := by decide +kernel
theorem dX8_thought_17 : decode cX8_thought 17 = .ok (.iload_n 1, 1) := by decide +kernel
theorem dX8_thought_18 : decode cX8_thought 18 = .ok (.invokevirtual 111, 3) := by decide +kernel
theorem dX8_thought_21 : decode cX8_thought 21 = .ok (.iconst 1, 1) := by decide +kernel
theorem dX8_thought_22 : decode cX8_thought 22 = .ok (.ireturn, 1) := by decide +kernel
theorem dX8_aged_0 : decode cX8_aged 0 = .ok (.aload_n 0, 1) := by decide +kernel
theorem dX8_aged_1 : decode cX8_aged 1 = .ok (.getfield 78, 3) := by decide +kernel
theorem dX8_aged_4 : decode cX8_aged 4 = .ok (.invokevirtual 294, 3) := by decide +kernel
theorem dX8_aged_7 : decode cX8_aged 7 = .ok (.ireturn, 1) := by decide +kernel
theorem dX8_shown_0 : decode cX8_shown 0 = .ok (.iload_n 1, 1) := by decide +kernel
theorem dX8_shown_1 : decode cX8_shown 1 = .ok (.ifCond .lt 8, 3) := by decide +kernel
theorem dX8_shown_4 : decode cX8_shown 4 = .ok (.iload_n 1, 1) := by decide +kernel
theorem dX8_shown_5 : decode cX8_shown 5 = .ok (.iconst 1, 1) := by decide +kernel
theorem dX8_shown_6 : decode cX8_shown 6 = .ok (.if_icmp .le 7, 3) := by decide +kernel
theorem dX8_shown_9 : decode cX8_shown 9 = .ok (.iconst (-1), 1) := by decide +kernel
theorem dX8_shown_10 : decode cX8_shown 10 = .ok (.goto 20, 3) := by decide +kernel
theorem dX8_shown_13 : decode cX8_shown 13 = .ok (.aload_n 0, 1) := by decide +kernel
theorem dX8_shown_14 : decode cX8_shown 14 = .ok (.getfield 78, 3) := by decide +kernel
theorem dX8_shown_17 : decode cX8_shown 17 = .ok (.iload_n 1, 1) := by decide +kernel
theorem dX8_shown_18 : decode cX8_shown 18 = .ok (.iconst 1, 1) := by decide +kernel
theorem dX8_shown_19 : decode cX8_shown 19 = .ok (.if_icmp .ne 7, 3) := by decide +kernel
theorem dX8_shown_22 : decode cX8_shown 22 = .ok (.iconst 1, 1) := by decide +kernel
theorem dX8_shown_23 : decode cX8_shown 23 = .ok (.goto 4, 3) := by decide +kernel
theorem dX8_shown_26 : decode cX8_shown 26 = .ok (.iconst 0, 1) := by decide +kernel
theorem dX8_shown_27 : decode cX8_shown 27 = .ok (.invokevirtual 297, 3) := by decide +kernel
theorem dX8_shown_30 : decode cX8_shown 30 = .ok (.ireturn, 1) := by decide +kernel
theorem dX8_thinks_0 : decode cX8_thinks 0 = .ok (.iload_n 1, 1) := by decide +kernel
theorem dX8_thinks_1 : decode cX8_thinks 1 = .ok (.ifCond .lt 17, 3) := by decide +kernel
theorem dX8_thinks_4 : decode cX8_thinks 4 = .ok (.iload_n 1, 1) := by decide +kernel
theorem dX8_thinks_5 : decode cX8_thinks 5 = .ok (.iconst 4, 1) := by decide +kernel
theorem dX8_thinks_6 : decode cX8_thinks 6 = .ok (.if_icmp .gt 12, 3) := by decide +kernel
theorem dX8_thinks_9 : decode cX8_thinks 9 = .ok (.iload_n 2, 1) := by decide +kernel
theorem dX8_thinks_10 : decode cX8_thinks 10 = .ok (.ifCond .lt 8, 3) := by decide +kernel
theorem dX8_thinks_13 : decode cX8_thinks 13 = .ok (.iload_n 2, 1) := by decide +kernel
theorem dX8_thinks_14 : decode cX8_thinks 14 = .ok (.iconst 1, 1) := by decide +kernel
theorem dX8_thinks_15 : decode cX8_thinks 15 = .ok (.if_icmp .le 7, 3) := by decide +kernel
theorem dX8_thinks_18 : decode cX8_thinks 18 = .ok (.ldc2_w 266, 3) := by decide +kernel
theorem dX8_thinks_21 : decode cX8_thinks 21 = .ok (.lreturn, 1) := by decide +kernel
theorem dX8_thinks_22 : decode cX8_thinks 22 = .ok (.aload_n 0, 1) := by decide +kernel
theorem dX8_thinks_23 : decode cX8_thinks 23 = .ok (.getfield 78, 3) := by decide +kernel
theorem dX8_thinks_26 : decode cX8_thinks 26 = .ok (.iload_n 1, 1) := by decide +kernel
theorem dX8_thinks_27 : decode cX8_thinks 27 = .ok (.iload_n 2, 1) := by decide +kernel
theorem dX8_thinks_28 : decode cX8_thinks 28 = .ok (.invokevirtual 301, 3) := by decide +kernel
theorem dX8_thinks_31 : decode cX8_thinks 31 = .ok (.lreturn, 1) := by decide +kernel
theorem dX8_note_0 : decode cX8_note 0 = .ok (.aload_n 0, 1) := by decide +kernel
theorem dX8_note_1 : decode cX8_note 1 = .ok (.getfield 20, 3) := by decide +kernel
theorem dX8_note_4 : decode cX8_note 4 = .ok (.iload_n 2, 1) := by decide +kernel
theorem dX8_note_5 : decode cX8_note 5 = .ok (.invokevirtual 124, 3) := by decide +kernel
theorem dX8_note_8 : decode cX8_note 8 = .ok (.ifCond .eq 22, 3) := by decide +kernel
theorem dX8_note_11 : decode cX8_note 11 = .ok (.aload_n 0, 1) := by decide +kernel
theorem dX8_note_12 : decode cX8_note 12 = .ok (.getfield 85, 3) := by decide +kernel
theorem dX8_note_15 : decode cX8_note 15 = .ok (.iload_n 1, 1) := by decide +kernel
theorem dX8_note_16 : decode cX8_note 16 = .ok (.aload_n 0, 1) := by decide +kernel
theorem dX8_note_17 : decode cX8_note 17 = .ok (.getfield 39, 3) := by decide +kernel
theorem dX8_note_20 : decode cX8_note 20 = .ok (.getfield 133, 3) := by decide +kernel
theorem dX8_note_23 : decode cX8_note 23 = .ok (.iload_n 2, 1) := by decide +kernel
theorem dX8_note_24 : decode cX8_note 24 = .ok (.invokevirtual 305, 3) := by decide +kernel
theorem dX8_note_27 : decode cX8_note 27 = .ok (.goto 5, 3) := by decide +kernel
theorem dX8_note_30 : decode cX8_note 30 = .ok (.ldc 250, 2) := by decide +kernel
theorem dX8_note_32 : decode cX8_note 32 = .ok (.ireturn, 1) := by decide +kernel
theorem dX8_imageOf_0 : decode cX8_imageOf 0 = .ok (.iload_n 1, 1) := by decide +kernel
theorem dX8_imageOf_1 : decode cX8_imageOf 1 = .ok (.ifCond .ne 10, 3) := by decide +kernel
theorem dX8_imageOf_4 : decode cX8_imageOf 4 = .ok (.aload_n 0, 1) := by decide +kernel
theorem dX8_imageOf_5 : decode cX8_imageOf 5 = .ok (.getfield 43, 3) := by decide +kernel
theorem dX8_imageOf_8 : decode cX8_imageOf 8 = .ok (.goto 7, 3) := by decide +kernel
theorem dX8_imageOf_11 : decode cX8_imageOf 11 = .ok (.aload_n 0, 1) := by decide +kernel
theorem dX8_imageOf_12 : decode cX8_imageOf 12 = .ok (.getfield 46, 3) := by decide +kernel
theorem dX8_imageOf_15 : decode cX8_imageOf 15 = .ok (.areturn, 1) := by decide +kernel
theorem dX8_keep_0 : decode cX8_keep 0 = .ok (.iload_n 1, 1) := by decide +kernel
theorem dX8_keep_1 : decode cX8_keep 1 = .ok (.ifCond .lt 8, 3) := by decide +kernel
theorem dX8_keep_4 : decode cX8_keep 4 = .ok (.iload_n 1, 1) := by decide +kernel
theorem dX8_keep_5 : decode cX8_keep 5 = .ok (.iconst 2, 1) := by decide +kernel
theorem dX8_keep_6 : decode cX8_keep 6 = .ok (.if_icmp .lt 5, 3) := by decide +kernel
theorem dX8_keep_9 : decode cX8_keep 9 = .ok (.iconst (-1), 1) := by decide +kernel
theorem dX8_keep_10 : decode cX8_keep 10 = .ok (.ireturn, 1) := by decide +kernel
theorem dX8_keep_11 : decode cX8_keep 11 = .ok (.aload_n 0, 1) := by decide +kernel
theorem dX8_keep_12 : decode cX8_keep 12 = .ok (.iload_n 1, 1) := by decide +kernel
theorem dX8_keep_13 : decode cX8_keep 13 = .ok (.invokevirtual 308, 3) := by decide +kernel
theorem dX8_keep_16 : decode cX8_keep 16 = .ok (.astore_n 2, 1) := by decide +kernel
theorem dX8_keep_17 : decode cX8_keep 17 = .ok (.aload_n 2, 1) := by decide +kernel
theorem dX8_keep_18 : decode cX8_keep 18 = .ok (.aload_n 0, 1) := by decide +kernel
theorem dX8_keep_19 : decode cX8_keep 19 = .ok (.getfield 39, 3) := by decide +kernel
theorem dX8_keep_22 : decode cX8_keep 22 = .ok (.invokevirtual 312, 3) := by decide +kernel
theorem dX8_keep_25 : decode cX8_keep 25 = .ok (.aload_n 2, 1) := by decide +kernel
theorem dX8_keep_26 : decode cX8_keep 26 = .ok (.iconst 1, 1) := by decide +kernel
theorem dX8_keep_27 : decode cX8_keep 27 = .ok (.putfield 107, 3) := by decide +kernel
theorem dX8_keep_30 : decode cX8_keep 30 = .ok (.aload_n 0, 1) := by decide +kernel
theorem dX8_keep_31 : decode cX8_keep 31 = .ok (.getfield 39, 3) := by decide +kernel
theorem dX8_keep_34 : decode cX8_keep 34 = .ok (.getfield 155, 3) := by decide +kernel
theorem dX8_keep_37 : decode cX8_keep 37 = .ok (.ireturn, 1) := by decide +kernel
theorem dX8_back_0 : decode cX8_back 0 = .ok (.iload_n 1, 1) := by decide +kernel
theorem dX8_back_1 : decode cX8_back 1 = .ok (.ifCond .lt 8, 3) := by decide +kernel
theorem dX8_back_4 : decode cX8_back 4 = .ok (.iload_n 1, 1) := by decide +kernel
theorem dX8_back_5 : decode cX8_back 5 = .ok (.iconst 2, 1) := by decide +kernel
theorem dX8_back_6 : decode cX8_back 6 = .ok (.if_icmp .lt 5, 3) := by decide +kernel
theorem dX8_back_9 : decode cX8_back 9 = .ok (.iconst (-1), 1) := by decide +kernel
theorem dX8_back_10 : decode cX8_back 10 = .ok (.ireturn, 1) := by decide +kernel
theorem dX8_back_11 : decode cX8_back 11 = .ok (.aload_n 0, 1) := by decide +kernel
theorem dX8_back_12 : decode cX8_back 12 = .ok (.iload_n 1, 1) := by decide +kernel
theorem dX8_back_13 : decode cX8_back 13 = .ok (.invokevirtual 308, 3) := by decide +kernel
theorem dX8_back_16 : decode cX8_back 16 = .ok (.astore_n 2, 1) := by decide +kernel
theorem dX8_back_17 : decode cX8_back 17 = .ok (.aload_n 2, 1) := by decide +kernel
theorem dX8_back_18 : decode cX8_back 18 = .ok (.getfield 107, 3) := by decide +kernel
theorem dX8_back_21 : decode cX8_back 21 = .ok (.ifCond .ne 6, 3) := by decide +kernel
theorem dX8_back_24 : decode cX8_back 24 = .ok (.bipush (-2), 2) := by decide +kernel
theorem dX8_back_26 : decode cX8_back 26 = .ok (.ireturn, 1) := by decide +kernel
theorem dX8_back_27 : decode cX8_back 27 = .ok (.aload_n 0, 1) := by decide +kernel
theorem dX8_back_28 : decode cX8_back 28 = .ok (.getfield 39, 3) := by decide +kernel
theorem dX8_back_31 : decode cX8_back 31 = .ok (.aload_n 2, 1) := by decide +kernel
theorem dX8_back_32 : decode cX8_back 32 = .ok (.invokevirtual 312, 3) := by decide +kernel
theorem dX8_back_35 : decode cX8_back 35 = .ok (.aload_n 0, 1) := by decide +kernel
theorem dX8_back_36 : decode cX8_back 36 = .ok (.getfield 39, 3) := by decide +kernel
theorem dX8_back_39 : decode cX8_back 39 = .ok (.getfield 155, 3) := by decide +kernel
theorem dX8_back_42 : decode cX8_back 42 = .ok (.ireturn, 1) := by decide +kernel
theorem dX8_count_0 : decode cX8_count 0 = .ok (.iload_n 1, 1) := by decide +kernel
theorem dX8_count_1 : decode cX8_count 1 = .ok (.tableswitch 84 0 5 #[39, 47, 55, 63, 71, 76], 39) := by decide +kernel
theorem dX8_count_40 : decode cX8_count 40 = .ok (.aload_n 0, 1) := by decide +kernel
theorem dX8_count_41 : decode cX8_count 41 = .ok (.getfield 20, 3) := by decide +kernel
theorem dX8_count_44 : decode cX8_count 44 = .ok (.getfield 314, 3) := by decide +kernel
theorem dX8_count_47 : decode cX8_count 47 = .ok (.ireturn, 1) := by decide +kernel
theorem dX8_count_48 : decode cX8_count 48 = .ok (.aload_n 0, 1) := by decide +kernel
theorem dX8_count_49 : decode cX8_count 49 = .ok (.getfield 20, 3) := by decide +kernel
theorem dX8_count_52 : decode cX8_count 52 = .ok (.getfield 317, 3) := by decide +kernel
theorem dX8_count_55 : decode cX8_count 55 = .ok (.ireturn, 1) := by decide +kernel
theorem dX8_count_56 : decode cX8_count 56 = .ok (.aload_n 0, 1) := by decide +kernel
theorem dX8_count_57 : decode cX8_count 57 = .ok (.getfield 20, 3) := by decide +kernel
theorem dX8_count_60 : decode cX8_count 60 = .ok (.getfield 189, 3) := by decide +kernel
theorem dX8_count_63 : decode cX8_count 63 = .ok (.ireturn, 1) := by decide +kernel
theorem dX8_count_64 : decode cX8_count 64 = .ok (.aload_n 0, 1) := by decide +kernel
theorem dX8_count_65 : decode cX8_count 65 = .ok (.getfield 20, 3) := by decide +kernel
theorem dX8_count_68 : decode cX8_count 68 = .ok (.getfield 320, 3) := by decide +kernel
theorem dX8_count_71 : decode cX8_count 71 = .ok (.ireturn, 1) := by decide +kernel
theorem dX8_count_72 : decode cX8_count 72 = .ok (.aload_n 0, 1) := by decide +kernel
theorem dX8_count_73 : decode cX8_count 73 = .ok (.getfield 13, 3) := by decide +kernel
theorem dX8_count_76 : decode cX8_count 76 = .ok (.ireturn, 1) := by decide +kernel
theorem dX8_count_77 : decode cX8_count 77 = .ok (.aload_n 0, 1) := by decide +kernel
theorem dX8_count_78 : decode cX8_count 78 = .ok (.getfield 78, 3) := by decide +kernel
theorem dX8_count_81 : decode cX8_count 81 = .ok (.getfield 323, 3) := by decide +kernel
theorem dX8_count_84 : decode cX8_count 84 = .ok (.ireturn, 1) := by decide +kernel
theorem dX8_count_85 : decode cX8_count 85 = .ok (.iconst (-1), 1) := by decide +kernel
theorem dX8_count_86 : decode cX8_count 86 = .ok (.ireturn, 1) := by decide +kernel
theorem dX8_trace_0 : decode cX8_trace 0 = .ok (.aload_n 0, 1) := by decide +kernel
theorem dX8_trace_1 : decode cX8_trace 1 = .ok (.getfield 85, 3) := by decide +kernel
theorem dX8_trace_4 : decode cX8_trace 4 = .ok (.getfield 326, 3) := by decide +kernel
theorem dX8_trace_7 : decode cX8_trace 7 = .ok (.lreturn, 1) := by decide +kernel
theorem dX8_portionsOf_0 : decode cX8_portionsOf 0 = .ok (.iload_n 0, 1) := by decide +kernel
theorem dX8_portionsOf_1 : decode cX8_portionsOf 1 = .ok (.iconst 4, 1) := by decide +kernel
theorem dX8_portionsOf_2 : decode cX8_portionsOf 2 = .ok (.iload_n 1, 1) := by decide +kernel
theorem dX8_portionsOf_3 : decode cX8_portionsOf 3 = .ok (.imul, 1) := by decide +kernel
theorem dX8_portionsOf_4 : decode cX8_portionsOf 4 = .ok (.ishr, 1) := by decide +kernel
theorem dX8_portionsOf_5 : decode cX8_portionsOf 5 = .ok (.iconst 3, 1) := by decide +kernel
theorem dX8_portionsOf_6 : decode cX8_portionsOf 6 = .ok (.iand, 1) := by decide +kernel
theorem dX8_portionsOf_7 : decode cX8_portionsOf 7 = .ok (.ireturn, 1) := by decide +kernel
theorem dX8_stepOf_0 : decode cX8_stepOf 0 = .ok (.iload_n 0, 1) := by decide +kernel
theorem dX8_stepOf_1 : decode cX8_stepOf 1 = .ok (.iconst 4, 1) := by decide +kernel
theorem dX8_stepOf_2 : decode cX8_stepOf 2 = .ok (.iload_n 1, 1) := by decide +kernel
theorem dX8_stepOf_3 : decode cX8_stepOf 3 = .ok (.imul, 1) := by decide +kernel
theorem dX8_stepOf_4 : decode cX8_stepOf 4 = .ok (.iconst 2, 1) := by decide +kernel
theorem dX8_stepOf_5 : decode cX8_stepOf 5 = .ok (.iadd, 1) := by decide +kernel
theorem dX8_stepOf_6 : decode cX8_stepOf 6 = .ok (.ishr, 1) := by decide +kernel
theorem dX8_stepOf_7 : decode cX8_stepOf 7 = .ok (.iconst 3, 1) := by decide +kernel
theorem dX8_stepOf_8 : decode cX8_stepOf 8 = .ok (.iand, 1) := by decide +kernel
theorem dX8_stepOf_9 : decode cX8_stepOf 9 = .ok (.ireturn, 1) := by decide +kernel
theorem dX8_field_0 : decode cX8_field 0 = .ok (.iconst 4, 1) := by decide +kernel
theorem dX8_field_1 : decode cX8_field 1 = .ok (.iload_n 1, 1) := by decide +kernel
theorem dX8_field_2 : decode cX8_field 2 = .ok (.imul, 1) := by decide +kernel
theorem dX8_field_3 : decode cX8_field 3 = .ok (.iload_n 2, 1) := by decide +kernel
theorem dX8_field_4 : decode cX8_field 4 = .ok (.iadd, 1) := by decide +kernel
theorem dX8_field_5 : decode cX8_field 5 = .ok (.iconst 4, 1) := by decide +kernel
theorem dX8_field_6 : decode cX8_field 6 = .ok (.iload_n 0, 1) := by decide +kernel
theorem dX8_field_7 : decode cX8_field 7 = .ok (.imul, 1) := by decide +kernel
theorem dX8_field_8 : decode cX8_field 8 = .ok (.ishl, 1) := by decide +kernel
theorem dX8_field_9 : decode cX8_field 9 = .ok (.ireturn, 1) := by decide +kernel
theorem dX8_without_0 : decode cX8_without 0 = .ok (.iload_n 0, 1) := by decide +kernel
theorem dX8_without_1 : decode cX8_without 1 = .ok (.bipush 15, 2) := by decide +kernel
theorem dX8_without_3 : decode cX8_without 3 = .ok (.iconst 4, 1) := by decide +kernel
theorem dX8_without_4 : decode cX8_without 4 = .ok (.iload_n 1, 1) := by decide +kernel
theorem dX8_without_5 : decode cX8_without 5 = .ok (.imul, 1) := by decide +kernel
theorem dX8_without_6 : decode cX8_without 6 = .ok (.ishl, 1) := by decide +kernel
theorem dX8_without_7 : decode cX8_without 7 = .ok (.iconst (-1), 1) := by decide +kernel
theorem dX8_without_8 : decode cX8_without 8 = .ok (.ixor, 1) := by decide +kernel
theorem dX8_without_9 : decode cX8_without 9 = .ok (.iand, 1) := by decide +kernel
theorem dX8_without_10 : decode cX8_without 10 = .ok (.ireturn, 1) := by decide +kernel
theorem dX8_allPortions_0 : decode cX8_allPortions 0 = .ok (.iload_n 0, 1) := by decide +kernel
theorem dX8_allPortions_1 : decode cX8_allPortions 1 = .ok (.iconst 0, 1) := by decide +kernel
theorem dX8_allPortions_2 : decode cX8_allPortions 2 = .ok (.invokestatic 139, 3) := by decide +kernel
theorem dX8_allPortions_5 : decode cX8_allPortions 5 = .ok (.iload_n 0, 1) := by decide +kernel
theorem dX8_allPortions_6 : decode cX8_allPortions 6 = .ok (.iconst 1, 1) := by decide +kernel
theorem dX8_allPortions_7 : decode cX8_allPortions 7 = .ok (.invokestatic 139, 3) := by decide +kernel
theorem dX8_allPortions_10 : decode cX8_allPortions 10 = .ok (.iadd, 1) := by decide +kernel
theorem dX8_allPortions_11 : decode cX8_allPortions 11 = .ok (.iload_n 0, 1) := by decide +kernel
theorem dX8_allPortions_12 : decode cX8_allPortions 12 = .ok (.iconst 2, 1) := by decide +kernel
theorem dX8_allPortions_13 : decode cX8_allPortions 13 = .ok (.invokestatic 139, 3) := by decide +kernel
theorem dX8_allPortions_16 : decode cX8_allPortions 16 = .ok (.iadd, 1) := by decide +kernel
theorem dX8_allPortions_17 : decode cX8_allPortions 17 = .ok (.ireturn, 1) := by decide +kernel
theorem dX8_lean_0 : decode cX8_lean 0 = .ok (.iload_n 0, 1) := by decide +kernel
theorem dX8_lean_1 : decode cX8_lean 1 = .ok (.istore_n 1, 1) := by decide +kernel
theorem dX8_lean_2 : decode cX8_lean 2 = .ok (.iconst 0, 1) := by decide +kernel
theorem dX8_lean_3 : decode cX8_lean 3 = .ok (.istore_n 2, 1) := by decide +kernel
theorem dX8_lean_4 : decode cX8_lean 4 = .ok (.iload_n 2, 1) := by decide +kernel
theorem dX8_lean_5 : decode cX8_lean 5 = .ok (.iconst 3, 1) := by decide +kernel
theorem dX8_lean_6 : decode cX8_lean 6 = .ok (.if_icmp .ge 23, 3) := by decide +kernel
theorem dX8_lean_9 : decode cX8_lean 9 = .ok (.iload_n 1, 1) := by decide +kernel
theorem dX8_lean_10 : decode cX8_lean 10 = .ok (.iload_n 2, 1) := by decide +kernel
theorem dX8_lean_11 : decode cX8_lean 11 = .ok (.invokestatic 139, 3) := by decide +kernel
theorem dX8_lean_14 : decode cX8_lean 14 = .ok (.ifCond .ne 9, 3) := by decide +kernel
theorem dX8_lean_17 : decode cX8_lean 17 = .ok (.iload_n 1, 1) := by decide +kernel
theorem dX8_lean_18 : decode cX8_lean 18 = .ok (.iload_n 2, 1) := by decide +kernel
theorem dX8_lean_19 : decode cX8_lean 19 = .ok (.invokestatic 168, 3) := by decide +kernel
theorem dX8_lean_22 : decode cX8_lean 22 = .ok (.istore_n 1, 1) := by decide +kernel
theorem dX8_lean_23 : decode cX8_lean 23 = .ok (.iinc 2 1, 3) := by decide +kernel
theorem dX8_lean_26 : decode cX8_lean 26 = .ok (.goto (-22), 3) := by decide +kernel
theorem dX8_lean_29 : decode cX8_lean 29 = .ok (.iload_n 1, 1) := by decide +kernel
theorem dX8_lean_30 : decode cX8_lean 30 = .ok (.ireturn, 1) := by decide +kernel
theorem dX8_has_0 : decode cX8_has 0 = .ok (.iload_n 0, 1) := by decide +kernel
theorem dX8_has_1 : decode cX8_has 1 = .ok (.iload_n 1, 1) := by decide +kernel
theorem dX8_has_2 : decode cX8_has 2 = .ok (.ishr, 1) := by decide +kernel
theorem dX8_has_3 : decode cX8_has 3 = .ok (.iconst 1, 1) := by decide +kernel
theorem dX8_has_4 : decode cX8_has 4 = .ok (.iand, 1) := by decide +kernel
theorem dX8_has_5 : decode cX8_has 5 = .ok (.iconst 1, 1) := by decide +kernel
theorem dX8_has_6 : decode cX8_has 6 = .ok (.if_icmp .ne 7, 3) := by decide +kernel
theorem dX8_has_9 : decode cX8_has 9 = .ok (.iconst 1, 1) := by decide +kernel
theorem dX8_has_10 : decode cX8_has 10 = .ok (.goto 4, 3) := by decide +kernel
theorem dX8_has_13 : decode cX8_has 13 = .ok (.iconst 0, 1) := by decide +kernel
theorem dX8_has_14 : decode cX8_has 14 = .ok (.ireturn, 1) := by decide +kernel
theorem dX8_commonPart_0 : decode cX8_commonPart 0 = .ok (.lload_n 0, 1) := by decide +kernel
theorem dX8_commonPart_1 : decode cX8_commonPart 1 = .ok (.lstore 4, 2) := by decide +kernel
theorem dX8_commonPart_3 : decode cX8_commonPart 3 = .ok (.lload_n 2, 1) := by decide +kernel
theorem dX8_commonPart_4 : decode cX8_commonPart 4 = .ok (.lstore 6, 2) := by decide +kernel
theorem dX8_commonPart_6 : decode cX8_commonPart 6 = .ok (.iconst 0, 1) := by decide +kernel
theorem dX8_commonPart_7 : decode cX8_commonPart 7 = .ok (.istore 8, 2) := by decide +kernel
theorem dX8_commonPart_9 : decode cX8_commonPart 9 = .ok (.iload 8, 2) := by decide +kernel
theorem dX8_commonPart_11 : decode cX8_commonPart 11 = .ok (.sipush 200, 3) := by decide +kernel
theorem dX8_commonPart_14 : decode cX8_commonPart 14 = .ok (.if_icmp .ge 31, 3) := by decide +kernel
theorem dX8_commonPart_17 : decode cX8_commonPart 17 = .ok (.lload 6, 2) := by decide +kernel
theorem dX8_commonPart_19 : decode cX8_commonPart 19 = .ok (.lconst 0, 1) := by decide +kernel
theorem dX8_commonPart_20 : decode cX8_commonPart 20 = .ok (.lcmp, 1) := by decide +kernel
theorem dX8_commonPart_21 : decode cX8_commonPart 21 = .ok (.ifCond .eq 24, 3) := by decide +kernel
theorem dX8_commonPart_24 : decode cX8_commonPart 24 = .ok (.lload 4, 2) := by decide +kernel
theorem dX8_commonPart_26 : decode cX8_commonPart 26 = .ok (.lload 6, 2) := by decide +kernel
theorem dX8_commonPart_28 : decode cX8_commonPart 28 = .ok (.lrem, 1) := by decide +kernel
theorem dX8_commonPart_29 : decode cX8_commonPart 29 = .ok (.lstore 9, 2) := by decide +kernel
theorem dX8_commonPart_31 : decode cX8_commonPart 31 = .ok (.lload 6, 2) := by decide +kernel
theorem dX8_commonPart_33 : decode cX8_commonPart 33 = .ok (.lstore 4, 2) := by decide +kernel
theorem dX8_commonPart_35 : decode cX8_commonPart 35 = .ok (.lload 9, 2) := by decide +kernel
theorem dX8_commonPart_37 : decode cX8_commonPart 37 = .ok (.lstore 6, 2) := by decide +kernel
theorem dX8_commonPart_39 : decode cX8_commonPart 39 = .ok (.iinc 8 1, 3) := by decide +kernel
theorem dX8_commonPart_42 : decode cX8_commonPart 42 = .ok (.goto (-33), 3) := by decide +kernel
theorem dX8_commonPart_45 : decode cX8_commonPart 45 = .ok (.lload 4, 2) := by decide +kernel
theorem dX8_commonPart_47 : decode cX8_commonPart 47 = .ok (.lreturn, 1) := by decide +kernel
theorem dX8_partOfLeast_0 : decode cX8_partOfLeast 0 = .ok (.lload_n 0, 1) := by decide +kernel
theorem dX8_partOfLeast_1 : decode cX8_partOfLeast 1 = .ok (.lload_n 2, 1) := by decide +kernel
theorem dX8_partOfLeast_2 : decode cX8_partOfLeast 2 = .ok (.invokestatic 330, 3) := by decide +kernel
theorem dX8_partOfLeast_5 : decode cX8_partOfLeast 5 = .ok (.lstore 5, 2) := by decide +kernel
theorem dX8_partOfLeast_7 : decode cX8_partOfLeast 7 = .ok (.iload 4, 2) := by decide +kernel
theorem dX8_partOfLeast_9 : decode cX8_partOfLeast 9 = .ok (.ifCond .ne 7, 3) := by decide +kernel
theorem dX8_partOfLeast_12 : decode cX8_partOfLeast 12 = .ok (.lload_n 0, 1) := by decide +kernel
theorem dX8_partOfLeast_13 : decode cX8_partOfLeast 13 = .ok (.goto 4, 3) := by decide +kernel
theorem dX8_partOfLeast_16 : decode cX8_partOfLeast 16 = .ok (.lload_n 2, 1) := by decide +kernel
theorem dX8_partOfLeast_17 : decode cX8_partOfLeast 17 = .ok (.lstore 7, 2) := by decide +kernel
theorem dX8_partOfLeast_19 : decode cX8_partOfLeast 19 = .ok (.lload 5, 2) := by decide +kernel
theorem dX8_partOfLeast_21 : decode cX8_partOfLeast 21 = .ok (.lconst 0, 1) := by decide +kernel
theorem dX8_partOfLeast_22 : decode cX8_partOfLeast 22 = .ok (.lcmp, 1) := by decide +kernel
theorem dX8_partOfLeast_23 : decode cX8_partOfLeast 23 = .ok (.ifCond .ne 8, 3) := by decide +kernel
theorem dX8_partOfLeast_26 : decode cX8_partOfLeast 26 = .ok (.lload 7, 2) := by decide +kernel
theorem dX8_partOfLeast_28 : decode cX8_partOfLeast 28 = .ok (.goto 8, 3) := by decide +kernel
theorem dX8_partOfLeast_31 : decode cX8_partOfLeast 31 = .ok (.lload 7, 2) := by decide +kernel
theorem dX8_partOfLeast_33 : decode cX8_partOfLeast 33 = .ok (.lload 5, 2) := by decide +kernel
theorem dX8_partOfLeast_35 : decode cX8_partOfLeast 35 = .ok (.ldiv, 1) := by decide +kernel
theorem dX8_partOfLeast_36 : decode cX8_partOfLeast 36 = .ok (.lreturn, 1) := by decide +kernel
theorem dX9_init_0 : decode cX9_init 0 = .ok (.aload_n 0, 1) := by decide +kernel
theorem dX9_init_1 : decode cX9_init 1 = .ok (.invokespecial 1, 3) := by decide +kernel
theorem dX9_init_4 : decode cX9_init 4 = .ok (.aload_n 0, 1) := by decide +kernel
theorem dX9_init_5 : decode cX9_init 5 = .ok (.sipush 400, 3) := by decide +kernel
theorem dX9_init_8 : decode cX9_init 8 = .ok (.newarray .byte, 2) := by decide +kernel
theorem dX9_init_10 : decode cX9_init 10 = .ok (.putfield 7, 3) := by decide +kernel
theorem dX9_init_13 : decode cX9_init 13 = .ok (.aload_n 0, 1) := by decide +kernel
theorem dX9_init_14 : decode cX9_init 14 = .ok (.iconst 2, 1) := by decide +kernel
theorem dX9_init_15 : decode cX9_init 15 = .ok (.newarray .int, 2) := by decide +kernel
theorem dX9_init_17 : decode cX9_init 17 = .ok (.putfield 13, 3) := by decide +kernel
theorem dX9_init_20 : decode cX9_init 20 = .ok (.aload_n 0, 1) := by decide +kernel
theorem dX9_init_21 : decode cX9_init 21 = .ok (.iconst 2, 1) := by decide +kernel
theorem dX9_init_22 : decode cX9_init 22 = .ok (.newarray .int, 2) := by decide +kernel
theorem dX9_init_24 : decode cX9_init 24 = .ok (.putfield 17, 3) := by decide +kernel
theorem dX9_init_27 : decode cX9_init 27 = .ok (.aload_n 0, 1) := by decide +kernel
theorem dX9_init_28 : decode cX9_init 28 = .ok (.iconst 2, 1) := by decide +kernel
theorem dX9_init_29 : decode cX9_init 29 = .ok (.newarray .int, 2) := by decide +kernel
theorem dX9_init_31 : decode cX9_init 31 = .ok (.putfield 20, 3) := by decide +kernel
theorem dX9_init_34 : decode cX9_init 34 = .ok (.aload_n 0, 1) := by decide +kernel
theorem dX9_init_35 : decode cX9_init 35 = .ok (.iconst 2, 1) := by decide +kernel
theorem dX9_init_36 : decode cX9_init 36 = .ok (.newarray .int, 2) := by decide +kernel
theorem dX9_init_38 : decode cX9_init 38 = .ok (.putfield 23, 3) := by decide +kernel
theorem dX9_init_41 : decode cX9_init 41 = .ok (.aload_n 0, 1) := by decide +kernel
theorem dX9_init_42 : decode cX9_init 42 = .ok (.bipush 112, 2) := by decide +kernel
theorem dX9_init_44 : decode cX9_init 44 = .ok (.newarray .int, 2) := by decide +kernel
theorem dX9_init_46 : decode cX9_init 46 = .ok (.putfield 26, 3) := by decide +kernel
theorem dX9_init_49 : decode cX9_init 49 = .ok (.aload_n 0, 1) := by decide +kernel
theorem dX9_init_50 : decode cX9_init 50 = .ok (.bipush 6, 2) := by decide +kernel
theorem dX9_init_52 : decode cX9_init 52 = .ok (.newarray .int, 2) := by decide +kernel
theorem dX9_init_54 : decode cX9_init 54 = .ok (.putfield 29, 3) := by decide +kernel
theorem dX9_init_57 : decode cX9_init 57 = .ok (.aload_n 0, 1) := by decide +kernel
theorem dX9_init_58 : decode cX9_init 58 = .ok (.bipush 6, 2) := by decide +kernel
theorem dX9_init_60 : decode cX9_init 60 = .ok (.newarray .int, 2) := by decide +kernel
theorem dX9_init_62 : decode cX9_init 62 = .ok (.putfield 32, 3) := by decide +kernel
theorem dX9_init_65 : decode cX9_init 65 = .ok (.aload_n 0, 1) := by decide +kernel
theorem dX9_init_66 : decode cX9_init 66 = .ok (.bipush 16, 2) := by decide +kernel
theorem dX9_init_68 : decode cX9_init 68 = .ok (.newarray .int, 2) := by decide +kernel
theorem dX9_init_70 : decode cX9_init 70 = .ok (.putfield 35, 3) := by decide +kernel
theorem dX9_init_73 : decode cX9_init 73 = .ok (.aload_n 0, 1) := by decide +kernel
theorem dX9_init_74 : decode cX9_init 74 = .ok (.bipush 16, 2) := by decide +kernel
theorem dX9_init_76 : decode cX9_init 76 = .ok (.newarray .int, 2) := by decide +kernel
theorem dX9_init_78 : decode cX9_init 78 = .ok (.putfield 38, 3) := by decide +kernel
theorem dX9_init_81 : decode cX9_init 81 = .ok (.aload_n 0, 1) := by decide +kernel
theorem dX9_init_82 : decode cX9_init 82 = .ok (.iconst 3, 1) := by decide +kernel
theorem dX9_init_83 : decode cX9_init 83 = .ok (.newarray .int, 2) := by decide +kernel
theorem dX9_init_85 : decode cX9_init 85 = .ok (.putfield 41, 3) := by decide +kernel
theorem dX9_init_88 : decode cX9_init 88 = .ok (.aload_n 0, 1) := by decide +kernel
theorem dX9_init_89 : decode cX9_init 89 = .ok (.iconst 3, 1) := by decide +kernel
theorem dX9_init_90 : decode cX9_init 90 = .ok (.newarray .boolean, 2) := by decide +kernel
theorem dX9_init_92 : decode cX9_init 92 = .ok (.putfield 44, 3) := by decide +kernel
theorem dX9_init_95 : decode cX9_init 95 = .ok (.aload_n 0, 1) := by decide +kernel
theorem dX9_init_96 : decode cX9_init 96 = .ok (.iconst 3, 1) := by decide +kernel
theorem dX9_init_97 : decode cX9_init 97 = .ok (.newarray .int, 2) := by decide +kernel
theorem dX9_init_99 : decode cX9_init 99 = .ok (.putfield 48, 3) := by decide +kernel
theorem dX9_init_102 : decode cX9_init 102 = .ok (.aload_n 0, 1) := by decide +kernel
theorem dX9_init_103 : decode cX9_init 103 = .ok (.iconst 3, 1) := by decide +kernel
theorem dX9_init_104 : decode cX9_init 104 = .ok (.newarray .int, 2) := by decide +kernel
theorem dX9_init_106 : decode cX9_init 106 = .ok (.putfield 51, 3) := by decide +kernel
theorem dX9_init_109 : decode cX9_init 109 = .ok (.aload_n 0, 1) := by decide +kernel
theorem dX9_init_110 : decode cX9_init 110 = .ok (.iconst 3, 1) := by decide +kernel
theorem dX9_init_111 : decode cX9_init 111 = .ok (.newarray .int, 2) := by decide +kernel
theorem dX9_init_113 : decode cX9_init 113 = .ok (.putfield 54, 3) := by decide +kernel
theorem dX9_init_116 : decode cX9_init 116 = .ok (.aload_n 0, 1) := by decide +kernel
theorem dX9_init_117 : decode cX9_init 117 = .ok (.bipush 9, 2) := by decide +kernel
theorem dX9_init_119 : decode cX9_init 119 = .ok (.newarray .int, 2) := by decide +kernel
theorem dX9_init_121 : decode cX9_init 121 = .ok (.putfield 57, 3) := by decide +kernel
theorem dX9_init_124 : decode cX9_init 124 = .ok (.aload_n 0, 1) := by decide +kernel
theorem dX9_init_125 : decode cX9_init 125 = .ok (.bipush 9, 2) := by decide +kernel
theorem dX9_init_127 : decode cX9_init 127 = .ok (.newarray .int, 2) := by decide +kernel
theorem dX9_init_129 : decode cX9_init 129 = .ok (.putfield 60, 3) := by decide +kernel
theorem dX9_init_132 : decode cX9_init 132 = .ok (.aload_n 0, 1) := by decide +kernel
theorem dX9_init_133 : decode cX9_init 133 = .ok (.bipush 9, 2) := by decide +kernel
theorem dX9_init_135 : decode cX9_init 135 = .ok (.newarray .boolean, 2) := by decide +kernel
theorem dX9_init_137 : decode cX9_init 137 = .ok (.putfield 63, 3) := by decide +kernel
theorem dX9_init_140 : decode cX9_init 140 = .ok (.aload_n 0, 1) := by decide +kernel
theorem dX9_init_141 : decode cX9_init 141 = .ok (.iconst 2, 1) := by decide +kernel
theorem dX9_init_142 : decode cX9_init 142 = .ok (.newarray .boolean, 2) := by decide +kernel
theorem dX9_init_144 : decode cX9_init 144 = .ok (.putfield 66, 3) := by decide +kernel
theorem dX9_init_147 : decode cX9_init 147 = .ok (.aload_n 0, 1) := by decide +kernel
theorem dX9_init_148 : decode cX9_init 148 = .ok (.sipush 4096, 3) := by decide +kernel
theorem dX9_init_151 : decode cX9_init 151 = .ok (.newarray .int, 2) := by decide +kernel
theorem dX9_init_153 : decode cX9_init 153 = .ok (.putfield 69, 3) := by decide +kernel
theorem dX9_init_156 : decode cX9_init 156 = .ok (.aload_n 0, 1) := by decide +kernel
theorem dX9_init_157 : decode cX9_init 157 = .ok (.sipush 4096, 3) := by decide +kernel
theorem dX9_init_160 : decode cX9_init 160 = .ok (.newarray .int, 2) := by decide +kernel
theorem dX9_init_162 : decode cX9_init 162 = .ok (.putfield 72, 3) := by decide +kernel
theorem dX9_init_165 : decode cX9_init 165 = .ok (.aload_n 0, 1) := by decide +kernel
theorem dX9_init_166 : decode cX9_init 166 = .ok (.sipush 4096, 3) := by decide +kernel
theorem dX9_init_169 : decode cX9_init 169 = .ok (.newarray .int, 2) := by decide +kernel
theorem dX9_init_171 : decode cX9_init 171 = .ok (.putfield 75, 3) := by decide +kernel
theorem dX9_init_174 : decode cX9_init 174 = .ok (.aload_n 0, 1) := by decide +kernel
theorem dX9_init_175 : decode cX9_init 175 = .ok (.sipush 4096, 3) := by decide +kernel
theorem dX9_init_178 : decode cX9_init 178 = .ok (.newarray .int, 2) := by decide +kernel
theorem dX9_init_180 : decode cX9_init 180 = .ok (.putfield 78, 3) := by decide +kernel
theorem dX9_init_183 : decode cX9_init 183 = .ok (.aload_n 0, 1) := by decide +kernel
theorem dX9_init_184 : decode cX9_init 184 = .ok (.sipush 216, 3) := by decide +kernel
theorem dX9_init_187 : decode cX9_init 187 = .ok (.newarray .int, 2) := by decide +kernel
theorem dX9_init_189 : decode cX9_init 189 = .ok (.putfield 81, 3) := by decide +kernel
theorem dX9_init_192 : decode cX9_init 192 = .ok (.aload_n 0, 1) := by decide +kernel
theorem dX9_init_193 : decode cX9_init 193 = .ok (.bipush 8, 2) := by decide +kernel
theorem dX9_init_195 : decode cX9_init 195 = .ok (.newarray .int, 2) := by decide +kernel
theorem dX9_init_197 : decode cX9_init 197 = .ok (.putfield 84, 3) := by decide +kernel
theorem dX9_init_200 : decode cX9_init 200 = .ok (.aload_n 0, 1) := by decide +kernel
theorem dX9_init_201 : decode cX9_init 201 = .ok (.bipush 8, 2) := by decide +kernel
theorem dX9_init_203 : decode cX9_init 203 = .ok (.newarray .int, 2) := by decide +kernel
theorem dX9_init_205 : decode cX9_init 205 = .ok (.putfield 87, 3) := by decide +kernel
theorem dX9_init_208 : decode cX9_init 208 = .ok (.aload_n 0, 1) := by decide +kernel
theorem dX9_init_209 : decode cX9_init 209 = .ok (.iconst 3, 1) := by decide +kernel
theorem dX9_init_210 : decode cX9_init 210 = .ok (.newarray .int, 2) := by decide +kernel
theorem dX9_init_212 : decode cX9_init 212 = .ok (.putfield 90, 3) := by decide +kernel
theorem dX9_init_215 : decode cX9_init 215 = .ok (.aload_n 0, 1) := by decide +kernel
theorem dX9_init_216 : decode cX9_init 216 = .ok (.iconst 3, 1) := by decide +kernel
theorem dX9_init_217 : decode cX9_init 217 = .ok (.newarray .int, 2) := by decide +kernel
theorem dX9_init_219 : decode cX9_init 219 = .ok (.putfield 93, 3) := by decide +kernel
theorem dX9_init_222 : decode cX9_init 222 = .ok (.aload_n 0, 1) := by decide +kernel
theorem dX9_init_223 : decode cX9_init 223 = .ok (.iconst 4, 1) := by decide +kernel
theorem dX9_init_224 : decode cX9_init 224 = .ok (.newarray .long, 2) := by decide +kernel
theorem dX9_init_226 : decode cX9_init 226 = .ok (.putfield 96, 3) := by decide +kernel
theorem dX9_init_229 : decode cX9_init 229 = .ok (.aload_n 0, 1) := by decide +kernel
theorem dX9_init_230 : decode cX9_init 230 = .ok (.bipush 8, 2) := by decide +kernel
theorem dX9_init_232 : decode cX9_init 232 = .ok (.newarray .long, 2) := by decide +kernel
theorem dX9_init_234 : decode cX9_init 234 = .ok (.putfield 100, 3) := by decide +kernel
theorem dX9_init_237 : decode cX9_init 237 = .ok (.aload_n 0, 1) := by decide +kernel
theorem dX9_init_238 : decode cX9_init 238 = .ok (.getfield 20, 3) := by decide +kernel
theorem dX9_init_241 : decode cX9_init 241 = .ok (.iconst 0, 1) := by decide +kernel
theorem dX9_init_242 : decode cX9_init 242 = .ok (.bipush 6, 2) := by decide +kernel
theorem dX9_init_244 : decode cX9_init 244 = .ok (.iastore, 1) := by decide +kernel
theorem dX9_init_245 : decode cX9_init 245 = .ok (.aload_n 0, 1) := by decide +kernel
theorem dX9_init_246 : decode cX9_init 246 = .ok (.getfield 23, 3) := by decide +kernel
theorem dX9_init_249 : decode cX9_init 249 = .ok (.iconst 0, 1) := by decide +kernel
theorem dX9_init_250 : decode cX9_init 250 = .ok (.iconst 3, 1) := by decide +kernel
theorem dX9_init_251 : decode cX9_init 251 = .ok (.iastore, 1) := by decide +kernel
theorem dX9_init_252 : decode cX9_init 252 = .ok (.aload_n 0, 1) := by decide +kernel
theorem dX9_init_253 : decode cX9_init 253 = .ok (.getfield 54, 3) := by decide +kernel
theorem dX9_init_256 : decode cX9_init 256 = .ok (.iconst 0, 1) := by decide +kernel
theorem dX9_init_257 : decode cX9_init 257 = .ok (.iconst 1, 1) := by decide +kernel
theorem dX9_init_258 : decode cX9_init 258 = .ok (.iastore, 1) := by decide +kernel
theorem dX9_init_259 : decode cX9_init 259 = .ok (.aload_n 0, 1) := by decide +kernel
theorem dX9_init_260 : decode cX9_init 260 = .ok (.getfield 100, 3) := by decide +kernel
theorem dX9_init_263 : decode cX9_init 263 = .ok (.iconst 0, 1) := by decide +kernel
theorem dX9_init_264 : decode cX9_init 264 = .ok (.lconst 1, 1) := by decide +kernel
theorem dX9_init_265 : decode cX9_init 265 = .ok (.lastore, 1) := by decide +kernel
theorem dX9_init_266 : decode cX9_init 266 = .ok (.return_, 1) := by decide +kernel
theorem dX9_in_0 : decode cX9_in 0 = .ok (.iload_n 0, 1) := by decide +kernel
theorem dX9_in_1 : decode cX9_in 1 = .ok (.iload_n 1, 1) := by decide +kernel
theorem dX9_in_2 : decode cX9_in 2 = .ok (.if_icmp .lt 12, 3) := by decide +kernel
theorem dX9_in_5 : decode cX9_in 5 = .ok (.iload_n 0, 1) := by decide +kernel
theorem dX9_in_6 : decode cX9_in 6 = .ok (.iload_n 2, 1) := by decide +kernel
theorem dX9_in_7 : decode cX9_in 7 = .ok (.if_icmp .gt 7, 3) := by decide +kernel
theorem dX9_in_10 : decode cX9_in 10 = .ok (.iconst 1, 1) := by decide +kernel
theorem dX9_in_11 : decode cX9_in 11 = .ok (.goto 4, 3) := by decide +kernel
theorem dX9_in_14 : decode cX9_in 14 = .ok (.iconst 0, 1) := by decide +kernel
theorem dX9_in_15 : decode cX9_in 15 = .ok (.ireturn, 1) := by decide +kernel
theorem dX9_type_0 : decode cX9_type 0 = .ok (.iload_n 3, 1) := by decide +kernel
theorem dX9_type_1 : decode cX9_type 1 = .ok (.iconst 1, 1) := by decide +kernel
theorem dX9_type_2 : decode cX9_type 2 = .ok (.bipush 8, 2) := by decide +kernel
theorem dX9_type_4 : decode cX9_type 4 = .ok (.invokestatic 103, 3) := by decide +kernel
theorem dX9_type_7 : decode cX9_type 7 = .ok (.ifCond .ne 5, 3) := by decide +kernel
theorem dX9_type_10 : decode cX9_type 10 = .ok (.iconst (-1), 1) := by decide +kernel
theorem dX9_type_11 : decode cX9_type 11 = .ok (.ireturn, 1) := by decide +kernel
theorem dX9_type_12 : decode cX9_type 12 = .ok (.aload_n 0, 1) := by decide +kernel
theorem dX9_type_13 : decode cX9_type 13 = .ok (.getfield 107, 3) := by decide +kernel
theorem dX9_type_16 : decode cX9_type 16 = .ok (.iload_n 3, 1) := by decide +kernel
theorem dX9_type_17 : decode cX9_type 17 = .ok (.iadd, 1) := by decide +kernel
theorem dX9_type_18 : decode cX9_type 18 = .ok (.sipush 400, 3) := by decide +kernel
theorem dX9_type_21 : decode cX9_type 21 = .ok (.if_icmp .le 6, 3) := by decide +kernel
theorem dX9_type_24 : decode cX9_type 24 = .ok (.bipush (-3), 2) := by decide +kernel
theorem dX9_type_26 : decode cX9_type 26 = .ok (.ireturn, 1) := by decide +kernel
theorem dX9_type_27 : decode cX9_type 27 = .ok (.iload_n 3, 1) := by decide +kernel
theorem dX9_type_28 : decode cX9_type 28 = .ok (.iconst 1, 1) := by decide +kernel
theorem dX9_type_29 : decode cX9_type 29 = .ok (.isub, 1) := by decide +kernel
theorem dX9_type_30 : decode cX9_type 30 = .ok (.istore 4, 2) := by decide +kernel
theorem dX9_type_32 : decode cX9_type 32 = .ok (.iload 4, 2) := by decide +kernel
theorem dX9_type_34 : decode cX9_type 34 = .ok (.ifCond .lt 41, 3) := by decide +kernel
theorem dX9_type_37 : decode cX9_type 37 = .ok (.aload_n 0, 1) := by decide +kernel
theorem dX9_type_38 : decode cX9_type 38 = .ok (.getfield 7, 3) := by decide +kernel
theorem dX9_type_41 : decode cX9_type 41 = .ok (.aload_n 0, 1) := by decide +kernel
end
section
theorem dX9_type_42 : decode cX9_type 42 = .ok (.getfield 107, 3) := by decide +kernel
theorem dX9_type_45 : decode cX9_type 45 = .ok (.lload_n 1, 1) := by decide +kernel
theorem dX9_type_46 : decode cX9_type 46 = .ok (.bipush 8, 2) := by decide +kernel
theorem dX9_type_48 : decode cX9_type 48 = .ok (.iload 4, 2) := by decide +kernel
theorem dX9_type_50 : decode cX9_type 50 = .ok (.imul, 1) := by decide +kernel
theorem dX9_type_51 : decode cX9_type 51 = .ok (.lshr, 1) := by decide +kernel
theorem dX9_type_52 : decode cX9_type 52 = .ok (.ldc2_w 111, 3) := by decide +kernel
theorem dX9_type_55 : decode cX9_type 55 = .ok (.land, 1) := by decide +kernel
theorem dX9_type_56 : decode cX9_type 56 = .ok (.l2i, 1) := by decide +kernel
theorem dX9_type_57 : decode cX9_type 57 = .ok (.i2b, 1) := by decide +kernel
theorem dX9_type_58 : decode cX9_type 58 = .ok (.bastore, 1) := by decide +kernel
theorem dX9_type_59 : decode cX9_type 59 = .ok (.aload_n 0, 1) := by decide +kernel
theorem dX9_type_60 : decode cX9_type 60 = .ok (.dup, 1) := by decide +kernel
theorem dX9_type_61 : decode cX9_type 61 = .ok (.getfield 107, 3) := by decide +kernel
theorem dX9_type_64 : decode cX9_type 64 = .ok (.iconst 1, 1) := by decide +kernel
theorem dX9_type_65 : decode cX9_type 65 = .ok (.iadd, 1) := by decide +kernel
theorem dX9_type_66 : decode cX9_type 66 = .ok (.putfield 107, 3) := by decide +kernel
theorem dX9_type_69 : decode cX9_type 69 = .ok (.iinc 4 (-1), 3) := by decide +kernel
theorem dX9_type_72 : decode cX9_type 72 = .ok (.goto (-40), 3) := by decide +kernel
theorem dX9_type_75 : decode cX9_type 75 = .ok (.aload_n 0, 1) := by decide +kernel
theorem dX9_type_76 : decode cX9_type 76 = .ok (.getfield 107, 3) := by decide +kernel
theorem dX9_type_79 : decode cX9_type 79 = .ok (.ireturn, 1) := by decide +kernel
theorem dX9_clear_0 : decode cX9_clear 0 = .ok (.aload_n 0, 1) := by decide +kernel
theorem dX9_clear_1 : decode cX9_clear 1 = .ok (.getfield 107, 3) := by decide +kernel
theorem dX9_clear_4 : decode cX9_clear 4 = .ok (.istore_n 1, 1) := by decide +kernel
theorem dX9_clear_5 : decode cX9_clear 5 = .ok (.aload_n 0, 1) := by decide +kernel
theorem dX9_clear_6 : decode cX9_clear 6 = .ok (.iconst 0, 1) := by decide +kernel
theorem dX9_clear_7 : decode cX9_clear 7 = .ok (.putfield 107, 3) := by decide +kernel
theorem dX9_clear_10 : decode cX9_clear 10 = .ok (.iload_n 1, 1) := by decide +kernel
theorem dX9_clear_11 : decode cX9_clear 11 = .ok (.ireturn, 1) := by decide +kernel
theorem dX9_here_0 : decode cX9_here 0 = .ok (.aload_n 0, 1) := by decide +kernel
theorem dX9_here_1 : decode cX9_here 1 = .ok (.getfield 113, 3) := by decide +kernel
theorem dX9_here_4 : decode cX9_here 4 = .ok (.aload_n 0, 1) := by decide +kernel
theorem dX9_here_5 : decode cX9_here 5 = .ok (.getfield 107, 3) := by decide +kernel
theorem dX9_here_8 : decode cX9_here 8 = .ok (.if_icmp .ge 19, 3) := by decide +kernel
theorem dX9_here_11 : decode cX9_here 11 = .ok (.aload_n 0, 1) := by decide +kernel
theorem dX9_here_12 : decode cX9_here 12 = .ok (.getfield 7, 3) := by decide +kernel
theorem dX9_here_15 : decode cX9_here 15 = .ok (.aload_n 0, 1) := by decide +kernel
theorem dX9_here_16 : decode cX9_here 16 = .ok (.getfield 113, 3) := by decide +kernel
theorem dX9_here_19 : decode cX9_here 19 = .ok (.baload, 1) := by decide +kernel
theorem dX9_here_20 : decode cX9_here 20 = .ok (.sipush 255, 3) := by decide +kernel
theorem dX9_here_23 : decode cX9_here 23 = .ok (.iand, 1) := by decide +kernel
theorem dX9_here_24 : decode cX9_here 24 = .ok (.goto 4, 3) := by decide +kernel
theorem dX9_here_27 : decode cX9_here 27 = .ok (.iconst (-1), 1) := by decide +kernel
theorem dX9_here_28 : decode cX9_here 28 = .ok (.ireturn, 1) := by decide +kernel
theorem dX9_mean_0 : decode cX9_mean 0 = .ok (.iload_n 0, 1) := by decide +kernel
theorem dX9_mean_1 : decode cX9_mean 1 = .ok (.lookupswitch 105 #[(2774, 89), (307058, 96), (380741, 91), (385418, 85), (453937, 99), (8863997, 102), (12325519, 83), (12384399, 93), (12391871, 87)], 83) := by decide +kernel
theorem dX9_mean_84 : decode cX9_mean 84 = .ok (.iconst 1, 1) := by decide +kernel
theorem dX9_mean_85 : decode cX9_mean 85 = .ok (.ireturn, 1) := by decide +kernel
theorem dX9_mean_86 : decode cX9_mean 86 = .ok (.iconst 2, 1) := by decide +kernel
theorem dX9_mean_87 : decode cX9_mean 87 = .ok (.ireturn, 1) := by decide +kernel
theorem dX9_mean_88 : decode cX9_mean 88 = .ok (.iconst 3, 1) := by decide +kernel
theorem dX9_mean_89 : decode cX9_mean 89 = .ok (.ireturn, 1) := by decide +kernel
theorem dX9_mean_90 : decode cX9_mean 90 = .ok (.iconst 4, 1) := by decide +kernel
theorem dX9_mean_91 : decode cX9_mean 91 = .ok (.ireturn, 1) := by decide +kernel
theorem dX9_mean_92 : decode cX9_mean 92 = .ok (.iconst 5, 1) := by decide +kernel
theorem dX9_mean_93 : decode cX9_mean 93 = .ok (.ireturn, 1) := by decide +kernel
theorem dX9_mean_94 : decode cX9_mean 94 = .ok (.bipush 6, 2) := by decide +kernel
theorem dX9_mean_96 : decode cX9_mean 96 = .ok (.ireturn, 1) := by decide +kernel
theorem dX9_mean_97 : decode cX9_mean 97 = .ok (.bipush 7, 2) := by decide +kernel
theorem dX9_mean_99 : decode cX9_mean 99 = .ok (.ireturn, 1) := by decide +kernel
theorem dX9_mean_100 : decode cX9_mean 100 = .ok (.bipush 8, 2) := by decide +kernel
theorem dX9_mean_102 : decode cX9_mean 102 = .ok (.ireturn, 1) := by decide +kernel
theorem dX9_mean_103 : decode cX9_mean 103 = .ok (.bipush 9, 2) := by decide +kernel
theorem dX9_mean_105 : decode cX9_mean 105 = .ok (.ireturn, 1) := by decide +kernel
theorem dX9_mean_106 : decode cX9_mean 106 = .ok (.bipush 12, 2) := by decide +kernel
theorem dX9_mean_108 : decode cX9_mean 108 = .ok (.ireturn, 1) := by decide +kernel
theorem dX9_read_0 : decode cX9_read 0 = .ok (.aload_n 0, 1) := by decide +kernel
theorem dX9_read_1 : decode cX9_read 1 = .ok (.invokevirtual 116, 3) := by decide +kernel
theorem dX9_read_4 : decode cX9_read 4 = .ok (.bipush 32, 2) := by decide +kernel
theorem dX9_read_6 : decode cX9_read 6 = .ok (.if_icmp .ne 16, 3) := by decide +kernel
theorem dX9_read_9 : decode cX9_read 9 = .ok (.aload_n 0, 1) := by decide +kernel
theorem dX9_read_10 : decode cX9_read 10 = .ok (.dup, 1) := by decide +kernel
theorem dX9_read_11 : decode cX9_read 11 = .ok (.getfield 113, 3) := by decide +kernel
theorem dX9_read_14 : decode cX9_read 14 = .ok (.iconst 1, 1) := by decide +kernel
theorem dX9_read_15 : decode cX9_read 15 = .ok (.iadd, 1) := by decide +kernel
theorem dX9_read_16 : decode cX9_read 16 = .ok (.putfield 113, 3) := by decide +kernel
theorem dX9_read_19 : decode cX9_read 19 = .ok (.goto (-19), 3) := by decide +kernel
theorem dX9_read_22 : decode cX9_read 22 = .ok (.aload_n 0, 1) := by decide +kernel
theorem dX9_read_23 : decode cX9_read 23 = .ok (.aload_n 0, 1) := by decide +kernel
theorem dX9_read_24 : decode cX9_read 24 = .ok (.getfield 113, 3) := by decide +kernel
theorem dX9_read_27 : decode cX9_read 27 = .ok (.putfield 120, 3) := by decide +kernel
theorem dX9_read_30 : decode cX9_read 30 = .ok (.aload_n 0, 1) := by decide +kernel
theorem dX9_read_31 : decode cX9_read 31 = .ok (.iconst 0, 1) := by decide +kernel
theorem dX9_read_32 : decode cX9_read 32 = .ok (.putfield 123, 3) := by decide +kernel
theorem dX9_read_35 : decode cX9_read 35 = .ok (.aload_n 0, 1) := by decide +kernel
theorem dX9_read_36 : decode cX9_read 36 = .ok (.invokevirtual 116, 3) := by decide +kernel
theorem dX9_read_39 : decode cX9_read 39 = .ok (.istore_n 1, 1) := by decide +kernel
theorem dX9_read_40 : decode cX9_read 40 = .ok (.iload_n 1, 1) := by decide +kernel
theorem dX9_read_41 : decode cX9_read 41 = .ok (.ifCond .ge 11, 3) := by decide +kernel
theorem dX9_read_44 : decode cX9_read 44 = .ok (.aload_n 0, 1) := by decide +kernel
theorem dX9_read_45 : decode cX9_read 45 = .ok (.iconst 0, 1) := by decide +kernel
theorem dX9_read_46 : decode cX9_read 46 = .ok (.putfield 126, 3) := by decide +kernel
theorem dX9_read_49 : decode cX9_read 49 = .ok (.goto 243, 3) := by decide +kernel
theorem dX9_read_52 : decode cX9_read 52 = .ok (.iload_n 1, 1) := by decide +kernel
theorem dX9_read_53 : decode cX9_read 53 = .ok (.bipush 97, 2) := by decide +kernel
theorem dX9_read_55 : decode cX9_read 55 = .ok (.bipush 122, 2) := by decide +kernel
theorem dX9_read_57 : decode cX9_read 57 = .ok (.invokestatic 103, 3) := by decide +kernel
theorem dX9_read_60 : decode cX9_read 60 = .ok (.ifCond .eq 90, 3) := by decide +kernel
theorem dX9_read_63 : decode cX9_read 63 = .ok (.iconst 0, 1) := by decide +kernel
theorem dX9_read_64 : decode cX9_read 64 = .ok (.istore_n 2, 1) := by decide +kernel
theorem dX9_read_65 : decode cX9_read 65 = .ok (.aload_n 0, 1) := by decide +kernel
theorem dX9_read_66 : decode cX9_read 66 = .ok (.invokevirtual 116, 3) := by decide +kernel
theorem dX9_read_69 : decode cX9_read 69 = .ok (.bipush 97, 2) := by decide +kernel
theorem dX9_read_71 : decode cX9_read 71 = .ok (.bipush 122, 2) := by decide +kernel
theorem dX9_read_73 : decode cX9_read 73 = .ok (.invokestatic 103, 3) := by decide +kernel
theorem dX9_read_76 : decode cX9_read 76 = .ok (.ifCond .eq 46, 3) := by decide +kernel
theorem dX9_read_79 : decode cX9_read 79 = .ok (.aload_n 0, 1) := by decide +kernel
theorem dX9_read_80 : decode cX9_read 80 = .ok (.getfield 113, 3) := by decide +kernel
theorem dX9_read_83 : decode cX9_read 83 = .ok (.aload_n 0, 1) := by decide +kernel
theorem dX9_read_84 : decode cX9_read 84 = .ok (.getfield 120, 3) := by decide +kernel
theorem dX9_read_87 : decode cX9_read 87 = .ok (.isub, 1) := by decide +kernel
theorem dX9_read_88 : decode cX9_read 88 = .ok (.iconst 5, 1) := by decide +kernel
theorem dX9_read_89 : decode cX9_read 89 = .ok (.if_icmp .ge 18, 3) := by decide +kernel
theorem dX9_read_92 : decode cX9_read 92 = .ok (.bipush 27, 2) := by decide +kernel
theorem dX9_read_94 : decode cX9_read 94 = .ok (.iload_n 2, 1) := by decide +kernel
theorem dX9_read_95 : decode cX9_read 95 = .ok (.imul, 1) := by decide +kernel
theorem dX9_read_96 : decode cX9_read 96 = .ok (.aload_n 0, 1) := by decide +kernel
theorem dX9_read_97 : decode cX9_read 97 = .ok (.invokevirtual 116, 3) := by decide +kernel
theorem dX9_read_100 : decode cX9_read 100 = .ok (.iadd, 1) := by decide +kernel
theorem dX9_read_101 : decode cX9_read 101 = .ok (.bipush 96, 2) := by decide +kernel
theorem dX9_read_103 : decode cX9_read 103 = .ok (.isub, 1) := by decide +kernel
theorem dX9_read_104 : decode cX9_read 104 = .ok (.goto 4, 3) := by decide +kernel
theorem dX9_read_107 : decode cX9_read 107 = .ok (.iconst 0, 1) := by decide +kernel
theorem dX9_read_108 : decode cX9_read 108 = .ok (.istore_n 2, 1) := by decide +kernel
theorem dX9_read_109 : decode cX9_read 109 = .ok (.aload_n 0, 1) := by decide +kernel
theorem dX9_read_110 : decode cX9_read 110 = .ok (.dup, 1) := by decide +kernel
theorem dX9_read_111 : decode cX9_read 111 = .ok (.getfield 113, 3) := by decide +kernel
theorem dX9_read_114 : decode cX9_read 114 = .ok (.iconst 1, 1) := by decide +kernel
theorem dX9_read_115 : decode cX9_read 115 = .ok (.iadd, 1) := by decide +kernel
theorem dX9_read_116 : decode cX9_read 116 = .ok (.putfield 113, 3) := by decide +kernel
theorem dX9_read_119 : decode cX9_read 119 = .ok (.goto (-54), 3) := by decide +kernel
theorem dX9_read_122 : decode cX9_read 122 = .ok (.aload_n 0, 1) := by decide +kernel
theorem dX9_read_123 : decode cX9_read 123 = .ok (.aload_n 0, 1) := by decide +kernel
theorem dX9_read_124 : decode cX9_read 124 = .ok (.getfield 113, 3) := by decide +kernel
theorem dX9_read_127 : decode cX9_read 127 = .ok (.aload_n 0, 1) := by decide +kernel
theorem dX9_read_128 : decode cX9_read 128 = .ok (.getfield 120, 3) := by decide +kernel
theorem dX9_read_131 : decode cX9_read 131 = .ok (.isub, 1) := by decide +kernel
theorem dX9_read_132 : decode cX9_read 132 = .ok (.iconst 5, 1) := by decide +kernel
theorem dX9_read_133 : decode cX9_read 133 = .ok (.if_icmp .le 7, 3) := by decide +kernel
theorem dX9_read_136 : decode cX9_read 136 = .ok (.iconst 0, 1) := by decide +kernel
theorem dX9_read_137 : decode cX9_read 137 = .ok (.goto 4, 3) := by decide +kernel
theorem dX9_read_140 : decode cX9_read 140 = .ok (.iload_n 2, 1) := by decide +kernel
theorem dX9_read_141 : decode cX9_read 141 = .ok (.invokestatic 129, 3) := by decide +kernel
theorem dX9_read_144 : decode cX9_read 144 = .ok (.putfield 126, 3) := by decide +kernel
theorem dX9_read_147 : decode cX9_read 147 = .ok (.goto 145, 3) := by decide +kernel
theorem dX9_read_150 : decode cX9_read 150 = .ok (.iload_n 1, 1) := by decide +kernel
theorem dX9_read_151 : decode cX9_read 151 = .ok (.bipush 48, 2) := by decide +kernel
theorem dX9_read_153 : decode cX9_read 153 = .ok (.bipush 57, 2) := by decide +kernel
theorem dX9_read_155 : decode cX9_read 155 = .ok (.invokestatic 103, 3) := by decide +kernel
theorem dX9_read_158 : decode cX9_read 158 = .ok (.ifCond .eq 107, 3) := by decide +kernel
theorem dX9_read_161 : decode cX9_read 161 = .ok (.aload_n 0, 1) := by decide +kernel
theorem dX9_read_162 : decode cX9_read 162 = .ok (.invokevirtual 116, 3) := by decide +kernel
theorem dX9_read_165 : decode cX9_read 165 = .ok (.bipush 48, 2) := by decide +kernel
theorem dX9_read_167 : decode cX9_read 167 = .ok (.bipush 57, 2) := by decide +kernel
theorem dX9_read_169 : decode cX9_read 169 = .ok (.invokestatic 103, 3) := by decide +kernel
theorem dX9_read_172 : decode cX9_read 172 = .ok (.ifCond .eq 51, 3) := by decide +kernel
theorem dX9_read_175 : decode cX9_read 175 = .ok (.aload_n 0, 1) := by decide +kernel
theorem dX9_read_176 : decode cX9_read 176 = .ok (.aload_n 0, 1) := by decide +kernel
theorem dX9_read_177 : decode cX9_read 177 = .ok (.getfield 123, 3) := by decide +kernel
theorem dX9_read_180 : decode cX9_read 180 = .ok (.bipush 99, 2) := by decide +kernel
theorem dX9_read_182 : decode cX9_read 182 = .ok (.if_icmp .le 10, 3) := by decide +kernel
theorem dX9_read_185 : decode cX9_read 185 = .ok (.aload_n 0, 1) := by decide +kernel
theorem dX9_read_186 : decode cX9_read 186 = .ok (.getfield 123, 3) := by decide +kernel
theorem dX9_read_189 : decode cX9_read 189 = .ok (.goto 18, 3) := by decide +kernel
theorem dX9_read_192 : decode cX9_read 192 = .ok (.bipush 10, 2) := by decide +kernel
theorem dX9_read_194 : decode cX9_read 194 = .ok (.aload_n 0, 1) := by decide +kernel
theorem dX9_read_195 : decode cX9_read 195 = .ok (.getfield 123, 3) := by decide +kernel
theorem dX9_read_198 : decode cX9_read 198 = .ok (.imul, 1) := by decide +kernel
theorem dX9_read_199 : decode cX9_read 199 = .ok (.aload_n 0, 1) := by decide +kernel
theorem dX9_read_200 : decode cX9_read 200 = .ok (.invokevirtual 116, 3) := by decide +kernel
theorem dX9_read_203 : decode cX9_read 203 = .ok (.iadd, 1) := by decide +kernel
theorem dX9_read_204 : decode cX9_read 204 = .ok (.bipush 48, 2) := by decide +kernel
theorem dX9_read_206 : decode cX9_read 206 = .ok (.isub, 1) := by decide +kernel
theorem dX9_read_207 : decode cX9_read 207 = .ok (.putfield 123, 3) := by decide +kernel
theorem dX9_read_210 : decode cX9_read 210 = .ok (.aload_n 0, 1) := by decide +kernel
theorem dX9_read_211 : decode cX9_read 211 = .ok (.dup, 1) := by decide +kernel
theorem dX9_read_212 : decode cX9_read 212 = .ok (.getfield 113, 3) := by decide +kernel
theorem dX9_read_215 : decode cX9_read 215 = .ok (.iconst 1, 1) := by decide +kernel
theorem dX9_read_216 : decode cX9_read 216 = .ok (.iadd, 1) := by decide +kernel
theorem dX9_read_217 : decode cX9_read 217 = .ok (.putfield 113, 3) := by decide +kernel
theorem dX9_read_220 : decode cX9_read 220 = .ok (.goto (-59), 3) := by decide +kernel
theorem dX9_read_223 : decode cX9_read 223 = .ok (.aload_n 0, 1) := by decide +kernel
theorem dX9_read_224 : decode cX9_read 224 = .ok (.aload_n 0, 1) := by decide +kernel
theorem dX9_read_225 : decode cX9_read 225 = .ok (.getfield 123, 3) := by decide +kernel
theorem dX9_read_228 : decode cX9_read 228 = .ok (.bipush 99, 2) := by decide +kernel
theorem dX9_read_230 : decode cX9_read 230 = .ok (.if_icmp .gt 22, 3) := by decide +kernel
theorem dX9_read_233 : decode cX9_read 233 = .ok (.iload_n 1, 1) := by decide +kernel
theorem dX9_read_234 : decode cX9_read 234 = .ok (.bipush 48, 2) := by decide +kernel
theorem dX9_read_236 : decode cX9_read 236 = .ok (.if_icmp .ne 21, 3) := by decide +kernel
theorem dX9_read_239 : decode cX9_read 239 = .ok (.aload_n 0, 1) := by decide +kernel
theorem dX9_read_240 : decode cX9_read 240 = .ok (.getfield 113, 3) := by decide +kernel
theorem dX9_read_243 : decode cX9_read 243 = .ok (.aload_n 0, 1) := by decide +kernel
theorem dX9_read_244 : decode cX9_read 244 = .ok (.getfield 120, 3) := by decide +kernel
theorem dX9_read_247 : decode cX9_read 247 = .ok (.isub, 1) := by decide +kernel
theorem dX9_read_248 : decode cX9_read 248 = .ok (.iconst 1, 1) := by decide +kernel
theorem dX9_read_249 : decode cX9_read 249 = .ok (.if_icmp .le 8, 3) := by decide +kernel
theorem dX9_read_252 : decode cX9_read 252 = .ok (.bipush 12, 2) := by decide +kernel
theorem dX9_read_254 : decode cX9_read 254 = .ok (.goto 5, 3) := by decide +kernel
theorem dX9_read_257 : decode cX9_read 257 = .ok (.bipush 10, 2) := by decide +kernel
theorem dX9_read_259 : decode cX9_read 259 = .ok (.putfield 126, 3) := by decide +kernel
theorem dX9_read_262 : decode cX9_read 262 = .ok (.goto 30, 3) := by decide +kernel
theorem dX9_read_265 : decode cX9_read 265 = .ok (.aload_n 0, 1) := by decide +kernel
theorem dX9_read_266 : decode cX9_read 266 = .ok (.dup, 1) := by decide +kernel
theorem dX9_read_267 : decode cX9_read 267 = .ok (.getfield 113, 3) := by decide +kernel
theorem dX9_read_270 : decode cX9_read 270 = .ok (.iconst 1, 1) := by decide +kernel
theorem dX9_read_271 : decode cX9_read 271 = .ok (.iadd, 1) := by decide +kernel
theorem dX9_read_272 : decode cX9_read 272 = .ok (.putfield 113, 3) := by decide +kernel
theorem dX9_read_275 : decode cX9_read 275 = .ok (.aload_n 0, 1) := by decide +kernel
theorem dX9_read_276 : decode cX9_read 276 = .ok (.iload_n 1, 1) := by decide +kernel
theorem dX9_read_277 : decode cX9_read 277 = .ok (.bipush 59, 2) := by decide +kernel
theorem dX9_read_279 : decode cX9_read 279 = .ok (.if_icmp .ne 8, 3) := by decide +kernel
theorem dX9_read_282 : decode cX9_read 282 = .ok (.bipush 11, 2) := by decide +kernel
theorem dX9_read_284 : decode cX9_read 284 = .ok (.goto 5, 3) := by decide +kernel
theorem dX9_read_287 : decode cX9_read 287 = .ok (.bipush 12, 2) := by decide +kernel
theorem dX9_read_289 : decode cX9_read 289 = .ok (.putfield 126, 3) := by decide +kernel
theorem dX9_read_292 : decode cX9_read 292 = .ok (.return_, 1) := by decide +kernel
theorem dX9_due_0 : decode cX9_due 0 = .ok (.aload_n 0, 1) := by decide +kernel
theorem dX9_due_1 : decode cX9_due 1 = .ok (.getfield 123, 3) := by decide +kernel
theorem dX9_due_4 : decode cX9_due 4 = .ok (.istore_n 2, 1) := by decide +kernel
theorem dX9_due_5 : decode cX9_due 5 = .ok (.aload_n 0, 1) := by decide +kernel
theorem dX9_due_6 : decode cX9_due 6 = .ok (.getfield 133, 3) := by decide +kernel
theorem dX9_due_9 : decode cX9_due 9 = .ok (.bipush (-9), 2) := by decide +kernel
theorem dX9_due_11 : decode cX9_due 11 = .ok (.if_icmp .ne 22, 3) := by decide +kernel
theorem dX9_due_14 : decode cX9_due 14 = .ok (.iload_n 1, 1) := by decide +kernel
theorem dX9_due_15 : decode cX9_due 15 = .ok (.ifCond .eq 10, 3) := by decide +kernel
theorem dX9_due_18 : decode cX9_due 18 = .ok (.aload_n 0, 1) := by decide +kernel
theorem dX9_due_19 : decode cX9_due 19 = .ok (.invokevirtual 136, 3) := by decide +kernel
theorem dX9_due_22 : decode cX9_due 22 = .ok (.goto 11, 3) := by decide +kernel
theorem dX9_due_25 : decode cX9_due 25 = .ok (.aload_n 0, 1) := by decide +kernel
theorem dX9_due_26 : decode cX9_due 26 = .ok (.aload_n 0, 1) := by decide +kernel
theorem dX9_due_27 : decode cX9_due 27 = .ok (.getfield 120, 3) := by decide +kernel
theorem dX9_due_30 : decode cX9_due 30 = .ok (.putfield 133, 3) := by decide +kernel
theorem dX9_due_33 : decode cX9_due 33 = .ok (.iload_n 2, 1) := by decide +kernel
theorem dX9_due_34 : decode cX9_due 34 = .ok (.ireturn, 1) := by decide +kernel
theorem dX9_number_0 : decode cX9_number 0 = .ok (.aload_n 0, 1) := by decide +kernel
theorem dX9_number_1 : decode cX9_number 1 = .ok (.aload_n 0, 1) := by decide +kernel
theorem dX9_number_2 : decode cX9_number 2 = .ok (.getfield 126, 3) := by decide +kernel
theorem dX9_number_5 : decode cX9_number 5 = .ok (.bipush 10, 2) := by decide +kernel
theorem dX9_number_7 : decode cX9_number 7 = .ok (.if_icmp .ne 19, 3) := by decide +kernel
theorem dX9_number_10 : decode cX9_number 10 = .ok (.aload_n 0, 1) := by decide +kernel
theorem dX9_number_11 : decode cX9_number 11 = .ok (.getfield 123, 3) := by decide +kernel
theorem dX9_number_14 : decode cX9_number 14 = .ok (.iload_n 1, 1) := by decide +kernel
theorem dX9_number_15 : decode cX9_number 15 = .ok (.iload_n 2, 1) := by decide +kernel
theorem dX9_number_16 : decode cX9_number 16 = .ok (.invokestatic 103, 3) := by decide +kernel
theorem dX9_number_19 : decode cX9_number 19 = .ok (.ifCond .eq 7, 3) := by decide +kernel
theorem dX9_number_22 : decode cX9_number 22 = .ok (.iconst 1, 1) := by decide +kernel
theorem dX9_number_23 : decode cX9_number 23 = .ok (.goto 4, 3) := by decide +kernel
theorem dX9_number_26 : decode cX9_number 26 = .ok (.iconst 0, 1) := by decide +kernel
theorem dX9_number_27 : decode cX9_number 27 = .ok (.invokevirtual 139, 3) := by decide +kernel
theorem dX9_number_30 : decode cX9_number 30 = .ok (.ireturn, 1) := by decide +kernel
theorem dX9_readSort_0 : decode cX9_readSort 0 = .ok (.bipush 56, 2) := by decide +kernel
theorem dX9_readSort_2 : decode cX9_readSort 2 = .ok (.bipush 14, 2) := by decide +kernel
theorem dX9_readSort_4 : decode cX9_readSort 4 = .ok (.aload_n 0, 1) := by decide +kernel
theorem dX9_readSort_5 : decode cX9_readSort 5 = .ok (.getfield 13, 3) := by decide +kernel
theorem dX9_readSort_8 : decode cX9_readSort 8 = .ok (.iconst 1, 1) := by decide +kernel
theorem dX9_readSort_9 : decode cX9_readSort 9 = .ok (.iaload, 1) := by decide +kernel
theorem dX9_readSort_10 : decode cX9_readSort 10 = .ok (.iconst 4, 1) := by decide +kernel
theorem dX9_readSort_11 : decode cX9_readSort 11 = .ok (.if_icmp .ge 12, 3) := by decide +kernel
theorem dX9_readSort_14 : decode cX9_readSort 14 = .ok (.aload_n 0, 1) := by decide +kernel
theorem dX9_readSort_15 : decode cX9_readSort 15 = .ok (.getfield 13, 3) := by decide +kernel
theorem dX9_readSort_18 : decode cX9_readSort 18 = .ok (.iconst 1, 1) := by decide +kernel
theorem dX9_readSort_19 : decode cX9_readSort 19 = .ok (.iaload, 1) := by decide +kernel
theorem dX9_readSort_20 : decode cX9_readSort 20 = .ok (.goto 4, 3) := by decide +kernel
theorem dX9_readSort_23 : decode cX9_readSort 23 = .ok (.iconst 0, 1) := by decide +kernel
theorem dX9_readSort_24 : decode cX9_readSort 24 = .ok (.imul, 1) := by decide +kernel
theorem dX9_readSort_25 : decode cX9_readSort 25 = .ok (.iadd, 1) := by decide +kernel
theorem dX9_readSort_26 : decode cX9_readSort 26 = .ok (.istore_n 1, 1) := by decide +kernel
theorem dX9_readSort_27 : decode cX9_readSort 27 = .ok (.iconst 0, 1) := by decide +kernel
theorem dX9_readSort_28 : decode cX9_readSort 28 = .ok (.istore_n 2, 1) := by decide +kernel
theorem dX9_readSort_29 : decode cX9_readSort 29 = .ok (.iload_n 2, 1) := by decide +kernel
theorem dX9_readSort_30 : decode cX9_readSort 30 = .ok (.bipush 14, 2) := by decide +kernel
theorem dX9_readSort_32 : decode cX9_readSort 32 = .ok (.if_icmp .ge 110, 3) := by decide +kernel
theorem dX9_readSort_35 : decode cX9_readSort 35 = .ok (.iload_n 2, 1) := by decide +kernel
theorem dX9_readSort_36 : decode cX9_readSort 36 = .ok (.iconst 4, 1) := by decide +kernel
theorem dX9_readSort_37 : decode cX9_readSort 37 = .ok (.if_icmp .eq 15, 3) := by decide +kernel
theorem dX9_readSort_40 : decode cX9_readSort 40 = .ok (.iload_n 2, 1) := by decide +kernel
theorem dX9_readSort_41 : decode cX9_readSort 41 = .ok (.bipush 7, 2) := by decide +kernel
theorem dX9_readSort_43 : decode cX9_readSort 43 = .ok (.if_icmp .eq 9, 3) := by decide +kernel
theorem dX9_readSort_46 : decode cX9_readSort 46 = .ok (.iload_n 2, 1) := by decide +kernel
theorem dX9_readSort_47 : decode cX9_readSort 47 = .ok (.bipush 10, 2) := by decide +kernel
theorem dX9_readSort_49 : decode cX9_readSort 49 = .ok (.if_icmp .ne 40, 3) := by decide +kernel
theorem dX9_readSort_52 : decode cX9_readSort 52 = .ok (.aload_n 0, 1) := by decide +kernel
theorem dX9_readSort_53 : decode cX9_readSort 53 = .ok (.aload_n 0, 1) := by decide +kernel
theorem dX9_readSort_54 : decode cX9_readSort 54 = .ok (.getfield 126, 3) := by decide +kernel
theorem dX9_readSort_57 : decode cX9_readSort 57 = .ok (.iload_n 2, 1) := by decide +kernel
theorem dX9_readSort_58 : decode cX9_readSort 58 = .ok (.iconst 4, 1) := by decide +kernel
theorem dX9_readSort_59 : decode cX9_readSort 59 = .ok (.if_icmp .ne 7, 3) := by decide +kernel
theorem dX9_readSort_62 : decode cX9_readSort 62 = .ok (.iconst 3, 1) := by decide +kernel
theorem dX9_readSort_63 : decode cX9_readSort 63 = .ok (.goto 14, 3) := by decide +kernel
theorem dX9_readSort_66 : decode cX9_readSort 66 = .ok (.iload_n 2, 1) := by decide +kernel
theorem dX9_readSort_67 : decode cX9_readSort 67 = .ok (.bipush 7, 2) := by decide +kernel
theorem dX9_readSort_69 : decode cX9_readSort 69 = .ok (.if_icmp .ne 7, 3) := by decide +kernel
theorem dX9_readSort_72 : decode cX9_readSort 72 = .ok (.iconst 4, 1) := by decide +kernel
theorem dX9_readSort_73 : decode cX9_readSort 73 = .ok (.goto 4, 3) := by decide +kernel
theorem dX9_readSort_76 : decode cX9_readSort 76 = .ok (.iconst 5, 1) := by decide +kernel
theorem dX9_readSort_77 : decode cX9_readSort 77 = .ok (.if_icmp .ne 7, 3) := by decide +kernel
theorem dX9_readSort_80 : decode cX9_readSort 80 = .ok (.iconst 1, 1) := by decide +kernel
theorem dX9_readSort_81 : decode cX9_readSort 81 = .ok (.goto 4, 3) := by decide +kernel
theorem dX9_readSort_84 : decode cX9_readSort 84 = .ok (.iconst 0, 1) := by decide +kernel
theorem dX9_readSort_85 : decode cX9_readSort 85 = .ok (.invokevirtual 139, 3) := by decide +kernel
theorem dX9_readSort_88 : decode cX9_readSort 88 = .ok (.pop, 1) := by decide +kernel
theorem dX9_readSort_89 : decode cX9_readSort 89 = .ok (.aload_n 0, 1) := by decide +kernel
theorem dX9_readSort_90 : decode cX9_readSort 90 = .ok (.iconst 0, 1) := by decide +kernel
theorem dX9_readSort_91 : decode cX9_readSort 91 = .ok (.iload_n 2, 1) := by decide +kernel
theorem dX9_readSort_92 : decode cX9_readSort 92 = .ok (.iconst 4, 1) := by decide +kernel
theorem dX9_readSort_93 : decode cX9_readSort 93 = .ok (.if_icmp .ge 8, 3) := by decide +kernel
theorem dX9_readSort_96 : decode cX9_readSort 96 = .ok (.bipush 99, 2) := by decide +kernel
theorem dX9_readSort_98 : decode cX9_readSort 98 = .ok (.goto 5, 3) := by decide +kernel
theorem dX9_readSort_101 : decode cX9_readSort 101 = .ok (.bipush 10, 2) := by decide +kernel
theorem dX9_readSort_103 : decode cX9_readSort 103 = .ok (.invokevirtual 143, 3) := by decide +kernel
theorem dX9_readSort_106 : decode cX9_readSort 106 = .ok (.istore_n 3, 1) := by decide +kernel
theorem dX9_readSort_107 : decode cX9_readSort 107 = .ok (.aload_n 0, 1) := by decide +kernel
theorem dX9_readSort_108 : decode cX9_readSort 108 = .ok (.getfield 26, 3) := by decide +kernel
theorem dX9_readSort_111 : decode cX9_readSort 111 = .ok (.iload_n 1, 1) := by decide +kernel
theorem dX9_readSort_112 : decode cX9_readSort 112 = .ok (.iload_n 2, 1) := by decide +kernel
theorem dX9_readSort_113 : decode cX9_readSort 113 = .ok (.iadd, 1) := by decide +kernel
theorem dX9_readSort_114 : decode cX9_readSort 114 = .ok (.aload_n 0, 1) := by decide +kernel
theorem dX9_readSort_115 : decode cX9_readSort 115 = .ok (.getfield 133, 3) := by decide +kernel
theorem dX9_readSort_118 : decode cX9_readSort 118 = .ok (.bipush (-9), 2) := by decide +kernel
theorem dX9_readSort_120 : decode cX9_readSort 120 = .ok (.if_icmp .ne 7, 3) := by decide +kernel
theorem dX9_readSort_123 : decode cX9_readSort 123 = .ok (.iload_n 3, 1) := by decide +kernel
theorem dX9_readSort_124 : decode cX9_readSort 124 = .ok (.goto 11, 3) := by decide +kernel
theorem dX9_readSort_127 : decode cX9_readSort 127 = .ok (.aload_n 0, 1) := by decide +kernel
theorem dX9_readSort_128 : decode cX9_readSort 128 = .ok (.getfield 26, 3) := by decide +kernel
theorem dX9_readSort_131 : decode cX9_readSort 131 = .ok (.iload_n 1, 1) := by decide +kernel
theorem dX9_readSort_132 : decode cX9_readSort 132 = .ok (.iload_n 2, 1) := by decide +kernel
theorem dX9_readSort_133 : decode cX9_readSort 133 = .ok (.iadd, 1) := by decide +kernel
theorem dX9_readSort_134 : decode cX9_readSort 134 = .ok (.iaload, 1) := by decide +kernel
theorem dX9_readSort_135 : decode cX9_readSort 135 = .ok (.iastore, 1) := by decide +kernel
theorem dX9_readSort_136 : decode cX9_readSort 136 = .ok (.iinc 2 1, 3) := by decide +kernel
theorem dX9_readSort_139 : decode cX9_readSort 139 = .ok (.goto (-110), 3) := by decide +kernel
theorem dX9_readSort_142 : decode cX9_readSort 142 = .ok (.aload_n 0, 1) := by decide +kernel
theorem dX9_readSort_143 : decode cX9_readSort 143 = .ok (.getfield 13, 3) := by decide +kernel
theorem dX9_readSort_146 : decode cX9_readSort 146 = .ok (.iconst 1, 1) := by decide +kernel
theorem dX9_readSort_147 : decode cX9_readSort 147 = .ok (.dup2, 1) := by decide +kernel
theorem dX9_readSort_148 : decode cX9_readSort 148 = .ok (.iaload, 1) := by decide +kernel
theorem dX9_readSort_149 : decode cX9_readSort 149 = .ok (.iconst 1, 1) := by decide +kernel
theorem dX9_readSort_150 : decode cX9_readSort 150 = .ok (.iadd, 1) := by decide +kernel
theorem dX9_readSort_151 : decode cX9_readSort 151 = .ok (.iastore, 1) := by decide +kernel
theorem dX9_readSort_152 : decode cX9_readSort 152 = .ok (.return_, 1) := by decide +kernel
theorem dX9_item_0 : decode cX9_item 0 = .ok (.aload_n 0, 1) := by decide +kernel
theorem dX9_item_1 : decode cX9_item 1 = .ok (.iload_n 1, 1) := by decide +kernel
theorem dX9_item_2 : decode cX9_item 2 = .ok (.iconst 1, 1) := by decide +kernel
theorem dX9_item_3 : decode cX9_item 3 = .ok (.if_icmp .ne 15, 3) := by decide +kernel
theorem dX9_item_6 : decode cX9_item 6 = .ok (.iload_n 2, 1) := by decide +kernel
theorem dX9_item_7 : decode cX9_item 7 = .ok (.ifCond .ne 7, 3) := by decide +kernel
theorem dX9_item_10 : decode cX9_item 10 = .ok (.iconst 1, 1) := by decide +kernel
theorem dX9_item_11 : decode cX9_item 11 = .ok (.goto 77, 3) := by decide +kernel
theorem dX9_item_14 : decode cX9_item 14 = .ok (.iconst 0, 1) := by decide +kernel
theorem dX9_item_15 : decode cX9_item 15 = .ok (.goto 73, 3) := by decide +kernel
theorem dX9_item_18 : decode cX9_item 18 = .ok (.iload_n 1, 1) := by decide +kernel
theorem dX9_item_19 : decode cX9_item 19 = .ok (.iconst 2, 1) := by decide +kernel
theorem dX9_item_20 : decode cX9_item 20 = .ok (.if_icmp .ne 21, 3) := by decide +kernel
theorem dX9_item_23 : decode cX9_item 23 = .ok (.aload_n 0, 1) := by decide +kernel
theorem dX9_item_24 : decode cX9_item 24 = .ok (.getfield 13, 3) := by decide +kernel
theorem dX9_item_27 : decode cX9_item 27 = .ok (.iconst 1, 1) := by decide +kernel
theorem dX9_item_28 : decode cX9_item 28 = .ok (.iaload, 1) := by decide +kernel
theorem dX9_item_29 : decode cX9_item 29 = .ok (.iconst 4, 1) := by decide +kernel
theorem dX9_item_30 : decode cX9_item 30 = .ok (.if_icmp .ge 7, 3) := by decide +kernel
theorem dX9_item_33 : decode cX9_item 33 = .ok (.iconst 1, 1) := by decide +kernel
theorem dX9_item_34 : decode cX9_item 34 = .ok (.goto 54, 3) := by decide +kernel
theorem dX9_item_37 : decode cX9_item 37 = .ok (.iconst 0, 1) := by decide +kernel
theorem dX9_item_38 : decode cX9_item 38 = .ok (.goto 50, 3) := by decide +kernel
theorem dX9_item_41 : decode cX9_item 41 = .ok (.iload_n 1, 1) := by decide +kernel
theorem dX9_item_42 : decode cX9_item 42 = .ok (.bipush 6, 2) := by decide +kernel
theorem dX9_item_44 : decode cX9_item 44 = .ok (.if_icmp .ne 21, 3) := by decide +kernel
theorem dX9_item_47 : decode cX9_item 47 = .ok (.aload_n 0, 1) := by decide +kernel
theorem dX9_item_48 : decode cX9_item 48 = .ok (.getfield 17, 3) := by decide +kernel
theorem dX9_item_51 : decode cX9_item 51 = .ok (.iconst 1, 1) := by decide +kernel
theorem dX9_item_52 : decode cX9_item 52 = .ok (.iaload, 1) := by decide +kernel
theorem dX9_item_53 : decode cX9_item 53 = .ok (.iconst 3, 1) := by decide +kernel
theorem dX9_item_54 : decode cX9_item 54 = .ok (.if_icmp .ge 7, 3) := by decide +kernel
theorem dX9_item_57 : decode cX9_item 57 = .ok (.iconst 1, 1) := by decide +kernel
theorem dX9_item_58 : decode cX9_item 58 = .ok (.goto 30, 3) := by decide +kernel
theorem dX9_item_61 : decode cX9_item 61 = .ok (.iconst 0, 1) := by decide +kernel
theorem dX9_item_62 : decode cX9_item 62 = .ok (.goto 26, 3) := by decide +kernel
theorem dX9_item_65 : decode cX9_item 65 = .ok (.iload_n 1, 1) := by decide +kernel
theorem dX9_item_66 : decode cX9_item 66 = .ok (.bipush 7, 2) := by decide +kernel
theorem dX9_item_68 : decode cX9_item 68 = .ok (.if_icmp .eq 15, 3) := by decide +kernel
theorem dX9_item_71 : decode cX9_item 71 = .ok (.iload_n 1, 1) := by decide +kernel
theorem dX9_item_72 : decode cX9_item 72 = .ok (.bipush 8, 2) := by decide +kernel
theorem dX9_item_74 : decode cX9_item 74 = .ok (.if_icmp .eq 9, 3) := by decide +kernel
theorem dX9_item_77 : decode cX9_item 77 = .ok (.iload_n 1, 1) := by decide +kernel
theorem dX9_item_78 : decode cX9_item 78 = .ok (.bipush 9, 2) := by decide +kernel
theorem dX9_item_80 : decode cX9_item 80 = .ok (.if_icmp .ne 7, 3) := by decide +kernel
theorem dX9_item_83 : decode cX9_item 83 = .ok (.iconst 1, 1) := by decide +kernel
theorem dX9_item_84 : decode cX9_item 84 = .ok (.goto 4, 3) := by decide +kernel
theorem dX9_item_87 : decode cX9_item 87 = .ok (.iconst 0, 1) := by decide +kernel
theorem dX9_item_88 : decode cX9_item 88 = .ok (.invokevirtual 139, 3) := by decide +kernel
theorem dX9_item_91 : decode cX9_item 91 = .ok (.pop, 1) := by decide +kernel
theorem dX9_item_92 : decode cX9_item 92 = .ok (.aload_n 0, 1) := by decide +kernel
theorem dX9_item_93 : decode cX9_item 93 = .ok (.getfield 133, 3) := by decide +kernel
theorem dX9_item_96 : decode cX9_item 96 = .ok (.bipush (-9), 2) := by decide +kernel
theorem dX9_item_98 : decode cX9_item 98 = .ok (.if_icmp .eq 4, 3) := by decide +kernel
theorem dX9_item_101 : decode cX9_item 101 = .ok (.return_, 1) := by decide +kernel
theorem dX9_item_102 : decode cX9_item 102 = .ok (.iload_n 1, 1) := by decide +kernel
theorem dX9_item_103 : decode cX9_item 103 = .ok (.iconst 1, 1) := by decide +kernel
theorem dX9_item_104 : decode cX9_item 104 = .ok (.if_icmp .ne 19, 3) := by decide +kernel
theorem dX9_item_107 : decode cX9_item 107 = .ok (.aload_n 0, 1) := by decide +kernel
theorem dX9_item_108 : decode cX9_item 108 = .ok (.getfield 20, 3) := by decide +kernel
theorem dX9_item_111 : decode cX9_item 111 = .ok (.iconst 1, 1) := by decide +kernel
theorem dX9_item_112 : decode cX9_item 112 = .ok (.aload_n 0, 1) := by decide +kernel
theorem dX9_item_113 : decode cX9_item 113 = .ok (.iconst 1, 1) := by decide +kernel
theorem dX9_item_114 : decode cX9_item 114 = .ok (.bipush 8, 2) := by decide +kernel
theorem dX9_item_116 : decode cX9_item 116 = .ok (.invokevirtual 143, 3) := by decide +kernel
theorem dX9_item_119 : decode cX9_item 119 = .ok (.iastore, 1) := by decide +kernel
theorem dX9_item_120 : decode cX9_item 120 = .ok (.goto 176, 3) := by decide +kernel
theorem dX9_item_123 : decode cX9_item 123 = .ok (.iload_n 1, 1) := by decide +kernel
theorem dX9_item_124 : decode cX9_item 124 = .ok (.iconst 2, 1) := by decide +kernel
theorem dX9_item_125 : decode cX9_item 125 = .ok (.if_icmp .ne 10, 3) := by decide +kernel
theorem dX9_item_128 : decode cX9_item 128 = .ok (.aload_n 0, 1) := by decide +kernel
theorem dX9_item_129 : decode cX9_item 129 = .ok (.invokevirtual 147, 3) := by decide +kernel
theorem dX9_item_132 : decode cX9_item 132 = .ok (.goto 164, 3) := by decide +kernel
theorem dX9_item_135 : decode cX9_item 135 = .ok (.iload_n 1, 1) := by decide +kernel
theorem dX9_item_136 : decode cX9_item 136 = .ok (.bipush 6, 2) := by decide +kernel
theorem dX9_item_138 : decode cX9_item 138 = .ok (.if_icmp .ne 61, 3) := by decide +kernel
theorem dX9_item_141 : decode cX9_item 141 = .ok (.aload_n 0, 1) := by decide +kernel
theorem dX9_item_142 : decode cX9_item 142 = .ok (.getfield 29, 3) := by decide +kernel
theorem dX9_item_145 : decode cX9_item 145 = .ok (.iconst 3, 1) := by decide +kernel
theorem dX9_item_146 : decode cX9_item 146 = .ok (.aload_n 0, 1) := by decide +kernel
theorem dX9_item_147 : decode cX9_item 147 = .ok (.getfield 17, 3) := by decide +kernel
theorem dX9_item_150 : decode cX9_item 150 = .ok (.iconst 1, 1) := by decide +kernel
theorem dX9_item_151 : decode cX9_item 151 = .ok (.iaload, 1) := by decide +kernel
theorem dX9_item_152 : decode cX9_item 152 = .ok (.iadd, 1) := by decide +kernel
theorem dX9_item_153 : decode cX9_item 153 = .ok (.aload_n 0, 1) := by decide +kernel
theorem dX9_item_154 : decode cX9_item 154 = .ok (.iconst 0, 1) := by decide +kernel
theorem dX9_item_155 : decode cX9_item 155 = .ok (.aload_n 0, 1) := by decide +kernel
theorem dX9_item_156 : decode cX9_item 156 = .ok (.getfield 13, 3) := by decide +kernel
theorem dX9_item_159 : decode cX9_item 159 = .ok (.iconst 1, 1) := by decide +kernel
theorem dX9_item_160 : decode cX9_item 160 = .ok (.iaload, 1) := by decide +kernel
theorem dX9_item_161 : decode cX9_item 161 = .ok (.iconst 1, 1) := by decide +kernel
theorem dX9_item_162 : decode cX9_item 162 = .ok (.isub, 1) := by decide +kernel
theorem dX9_item_163 : decode cX9_item 163 = .ok (.invokevirtual 143, 3) := by decide +kernel
theorem dX9_item_166 : decode cX9_item 166 = .ok (.iastore, 1) := by decide +kernel
theorem dX9_item_167 : decode cX9_item 167 = .ok (.aload_n 0, 1) := by decide +kernel
theorem dX9_item_168 : decode cX9_item 168 = .ok (.getfield 32, 3) := by decide +kernel
theorem dX9_item_171 : decode cX9_item 171 = .ok (.iconst 3, 1) := by decide +kernel
theorem dX9_item_172 : decode cX9_item 172 = .ok (.aload_n 0, 1) := by decide +kernel
theorem dX9_item_173 : decode cX9_item 173 = .ok (.getfield 17, 3) := by decide +kernel
theorem dX9_item_176 : decode cX9_item 176 = .ok (.iconst 1, 1) := by decide +kernel
theorem dX9_item_177 : decode cX9_item 177 = .ok (.iaload, 1) := by decide +kernel
theorem dX9_item_178 : decode cX9_item 178 = .ok (.iadd, 1) := by decide +kernel
theorem dX9_item_179 : decode cX9_item 179 = .ok (.aload_n 0, 1) := by decide +kernel
theorem dX9_item_180 : decode cX9_item 180 = .ok (.iconst 1, 1) := by decide +kernel
theorem dX9_item_181 : decode cX9_item 181 = .ok (.iconst 3, 1) := by decide +kernel
theorem dX9_item_182 : decode cX9_item 182 = .ok (.invokevirtual 143, 3) := by decide +kernel
theorem dX9_item_185 : decode cX9_item 185 = .ok (.iastore, 1) := by decide +kernel
theorem dX9_item_186 : decode cX9_item 186 = .ok (.aload_n 0, 1) := by decide +kernel
theorem dX9_item_187 : decode cX9_item 187 = .ok (.getfield 17, 3) := by decide +kernel
theorem dX9_item_190 : decode cX9_item 190 = .ok (.iconst 1, 1) := by decide +kernel
theorem dX9_item_191 : decode cX9_item 191 = .ok (.dup2, 1) := by decide +kernel
theorem dX9_item_192 : decode cX9_item 192 = .ok (.iaload, 1) := by decide +kernel
theorem dX9_item_193 : decode cX9_item 193 = .ok (.iconst 1, 1) := by decide +kernel
theorem dX9_item_194 : decode cX9_item 194 = .ok (.iadd, 1) := by decide +kernel
theorem dX9_item_195 : decode cX9_item 195 = .ok (.iastore, 1) := by decide +kernel
theorem dX9_item_196 : decode cX9_item 196 = .ok (.goto 100, 3) := by decide +kernel
theorem dX9_item_199 : decode cX9_item 199 = .ok (.iload_n 1, 1) := by decide +kernel
theorem dX9_item_200 : decode cX9_item 200 = .ok (.bipush 7, 2) := by decide +kernel
theorem dX9_item_202 : decode cX9_item 202 = .ok (.if_icmp .ne 18, 3) := by decide +kernel
theorem dX9_item_205 : decode cX9_item 205 = .ok (.aload_n 0, 1) := by decide +kernel
theorem dX9_item_206 : decode cX9_item 206 = .ok (.getfield 23, 3) := by decide +kernel
theorem dX9_item_209 : decode cX9_item 209 = .ok (.iconst 1, 1) := by decide +kernel
theorem dX9_item_210 : decode cX9_item 210 = .ok (.aload_n 0, 1) := by decide +kernel
theorem dX9_item_211 : decode cX9_item 211 = .ok (.iconst 1, 1) := by decide +kernel
theorem dX9_item_212 : decode cX9_item 212 = .ok (.iconst 3, 1) := by decide +kernel
theorem dX9_item_213 : decode cX9_item 213 = .ok (.invokevirtual 143, 3) := by decide +kernel
theorem dX9_item_216 : decode cX9_item 216 = .ok (.iastore, 1) := by decide +kernel
theorem dX9_item_217 : decode cX9_item 217 = .ok (.goto 79, 3) := by decide +kernel
theorem dX9_item_220 : decode cX9_item 220 = .ok (.aload_n 0, 1) := by decide +kernel
theorem dX9_item_221 : decode cX9_item 221 = .ok (.iconst 0, 1) := by decide +kernel
theorem dX9_item_222 : decode cX9_item 222 = .ok (.bipush 7, 2) := by decide +kernel
theorem dX9_item_224 : decode cX9_item 224 = .ok (.invokevirtual 143, 3) := by decide +kernel
theorem dX9_item_227 : decode cX9_item 227 = .ok (.istore_n 3, 1) := by decide +kernel
theorem dX9_item_228 : decode cX9_item 228 = .ok (.aload_n 0, 1) := by decide +kernel
theorem dX9_item_229 : decode cX9_item 229 = .ok (.iconst 0, 1) := by decide +kernel
theorem dX9_item_230 : decode cX9_item 230 = .ok (.iload_n 1, 1) := by decide +kernel
theorem dX9_item_231 : decode cX9_item 231 = .ok (.bipush 8, 2) := by decide +kernel
theorem dX9_item_233 : decode cX9_item 233 = .ok (.if_icmp .ne 7, 3) := by decide +kernel
theorem dX9_item_236 : decode cX9_item 236 = .ok (.iconst 5, 1) := by decide +kernel
theorem dX9_item_237 : decode cX9_item 237 = .ok (.goto 5, 3) := by decide +kernel
theorem dX9_item_240 : decode cX9_item 240 = .ok (.bipush 99, 2) := by decide +kernel
theorem dX9_item_242 : decode cX9_item 242 = .ok (.invokevirtual 143, 3) := by decide +kernel
theorem dX9_item_245 : decode cX9_item 245 = .ok (.istore 4, 2) := by decide +kernel
theorem dX9_item_247 : decode cX9_item 247 = .ok (.aload_n 0, 1) := by decide +kernel
theorem dX9_item_248 : decode cX9_item 248 = .ok (.getfield 133, 3) := by decide +kernel
theorem dX9_item_251 : decode cX9_item 251 = .ok (.bipush (-9), 2) := by decide +kernel
theorem dX9_item_253 : decode cX9_item 253 = .ok (.if_icmp .ne 23, 3) := by decide +kernel
theorem dX9_item_256 : decode cX9_item 256 = .ok (.iload_n 1, 1) := by decide +kernel
theorem dX9_item_257 : decode cX9_item 257 = .ok (.bipush 8, 2) := by decide +kernel
theorem dX9_item_259 : decode cX9_item 259 = .ok (.if_icmp .ne 17, 3) := by decide +kernel
theorem dX9_item_262 : decode cX9_item 262 = .ok (.aload_n 0, 1) := by decide +kernel
theorem dX9_item_263 : decode cX9_item 263 = .ok (.getfield 35, 3) := by decide +kernel
theorem dX9_item_266 : decode cX9_item 266 = .ok (.bipush 8, 2) := by decide +kernel
theorem dX9_item_268 : decode cX9_item 268 = .ok (.iload_n 3, 1) := by decide +kernel
theorem dX9_item_269 : decode cX9_item 269 = .ok (.iadd, 1) := by decide +kernel
theorem dX9_item_270 : decode cX9_item 270 = .ok (.iload 4, 2) := by decide +kernel
theorem dX9_item_272 : decode cX9_item 272 = .ok (.iastore, 1) := by decide +kernel
theorem dX9_item_273 : decode cX9_item 273 = .ok (.goto 23, 3) := by decide +kernel
theorem dX9_item_276 : decode cX9_item 276 = .ok (.aload_n 0, 1) := by decide +kernel
theorem dX9_item_277 : decode cX9_item 277 = .ok (.getfield 133, 3) := by decide +kernel
theorem dX9_item_280 : decode cX9_item 280 = .ok (.bipush (-9), 2) := by decide +kernel
theorem dX9_item_282 : decode cX9_item 282 = .ok (.if_icmp .ne 14, 3) := by decide +kernel
theorem dX9_item_285 : decode cX9_item 285 = .ok (.aload_n 0, 1) := by decide +kernel
theorem dX9_item_286 : decode cX9_item 286 = .ok (.getfield 38, 3) := by decide +kernel
theorem dX9_item_289 : decode cX9_item 289 = .ok (.bipush 8, 2) := by decide +kernel
theorem dX9_item_291 : decode cX9_item 291 = .ok (.iload_n 3, 1) := by decide +kernel
theorem dX9_item_292 : decode cX9_item 292 = .ok (.iadd, 1) := by decide +kernel
theorem dX9_item_293 : decode cX9_item 293 = .ok (.iload 4, 2) := by decide +kernel
theorem dX9_item_295 : decode cX9_item 295 = .ok (.iastore, 1) := by decide +kernel
theorem dX9_item_296 : decode cX9_item 296 = .ok (.aload_n 0, 1) := by decide +kernel
theorem dX9_item_297 : decode cX9_item 297 = .ok (.aload_n 0, 1) := by decide +kernel
theorem dX9_item_298 : decode cX9_item 298 = .ok (.getfield 126, 3) := by decide +kernel
theorem dX9_item_301 : decode cX9_item 301 = .ok (.bipush 11, 2) := by decide +kernel
theorem dX9_item_303 : decode cX9_item 303 = .ok (.if_icmp .ne 7, 3) := by decide +kernel
theorem dX9_item_306 : decode cX9_item 306 = .ok (.iconst 1, 1) := by decide +kernel
theorem dX9_item_307 : decode cX9_item 307 = .ok (.goto 4, 3) := by decide +kernel
theorem dX9_item_310 : decode cX9_item 310 = .ok (.iconst 0, 1) := by decide +kernel
theorem dX9_item_311 : decode cX9_item 311 = .ok (.invokevirtual 139, 3) := by decide +kernel
theorem dX9_item_314 : decode cX9_item 314 = .ok (.pop, 1) := by decide +kernel
theorem dX9_item_315 : decode cX9_item 315 = .ok (.return_, 1) := by decide +kernel
theorem dX9_cellar_0 : decode cX9_cellar 0 = .ok (.aload_n 0, 1) := by decide +kernel
theorem dX9_cellar_1 : decode cX9_cellar 1 = .ok (.iconst 0, 1) := by decide +kernel
theorem dX9_cellar_2 : decode cX9_cellar 2 = .ok (.putfield 113, 3) := by decide +kernel
theorem dX9_cellar_5 : decode cX9_cellar 5 = .ok (.aload_n 0, 1) := by decide +kernel
theorem dX9_cellar_6 : decode cX9_cellar 6 = .ok (.bipush (-9), 2) := by decide +kernel
theorem dX9_cellar_8 : decode cX9_cellar 8 = .ok (.putfield 133, 3) := by decide +kernel
theorem dX9_cellar_11 : decode cX9_cellar 11 = .ok (.aload_n 0, 1) := by decide +kernel
theorem dX9_cellar_12 : decode cX9_cellar 12 = .ok (.getfield 13, 3) := by decide +kernel
theorem dX9_cellar_15 : decode cX9_cellar 15 = .ok (.iconst 1, 1) := by decide +kernel
theorem dX9_cellar_16 : decode cX9_cellar 16 = .ok (.iconst 0, 1) := by decide +kernel
theorem dX9_cellar_17 : decode cX9_cellar 17 = .ok (.iastore, 1) := by decide +kernel
theorem dX9_cellar_18 : decode cX9_cellar 18 = .ok (.aload_n 0, 1) := by decide +kernel
theorem dX9_cellar_19 : decode cX9_cellar 19 = .ok (.getfield 17, 3) := by decide +kernel
theorem dX9_cellar_22 : decode cX9_cellar 22 = .ok (.iconst 1, 1) := by decide +kernel
theorem dX9_cellar_23 : decode cX9_cellar 23 = .ok (.iconst 0, 1) := by decide +kernel
theorem dX9_cellar_24 : decode cX9_cellar 24 = .ok (.iastore, 1) := by decide +kernel
theorem dX9_cellar_25 : decode cX9_cellar 25 = .ok (.aload_n 0, 1) := by decide +kernel
theorem dX9_cellar_26 : decode cX9_cellar 26 = .ok (.getfield 20, 3) := by decide +kernel
theorem dX9_cellar_29 : decode cX9_cellar 29 = .ok (.iconst 1, 1) := by decide +kernel
theorem dX9_cellar_30 : decode cX9_cellar 30 = .ok (.bipush 6, 2) := by decide +kernel
theorem dX9_cellar_32 : decode cX9_cellar 32 = .ok (.iastore, 1) := by decide +kernel
theorem dX9_cellar_33 : decode cX9_cellar 33 = .ok (.aload_n 0, 1) := by decide +kernel
theorem dX9_cellar_34 : decode cX9_cellar 34 = .ok (.getfield 23, 3) := by decide +kernel
theorem dX9_cellar_37 : decode cX9_cellar 37 = .ok (.iconst 1, 1) := by decide +kernel
theorem dX9_cellar_38 : decode cX9_cellar 38 = .ok (.iconst 3, 1) := by decide +kernel
theorem dX9_cellar_39 : decode cX9_cellar 39 = .ok (.iastore, 1) := by decide +kernel
theorem dX9_cellar_40 : decode cX9_cellar 40 = .ok (.iconst 0, 1) := by decide +kernel
theorem dX9_cellar_41 : decode cX9_cellar 41 = .ok (.istore_n 1, 1) := by decide +kernel
theorem dX9_cellar_42 : decode cX9_cellar 42 = .ok (.iload_n 1, 1) := by decide +kernel
theorem dX9_cellar_43 : decode cX9_cellar 43 = .ok (.bipush 8, 2) := by decide +kernel
theorem dX9_cellar_45 : decode cX9_cellar 45 = .ok (.if_icmp .ge 29, 3) := by decide +kernel
theorem dX9_cellar_48 : decode cX9_cellar 48 = .ok (.aload_n 0, 1) := by decide +kernel
theorem dX9_cellar_49 : decode cX9_cellar 49 = .ok (.getfield 35, 3) := by decide +kernel
theorem dX9_cellar_52 : decode cX9_cellar 52 = .ok (.bipush 8, 2) := by decide +kernel
theorem dX9_cellar_54 : decode cX9_cellar 54 = .ok (.iload_n 1, 1) := by decide +kernel
theorem dX9_cellar_55 : decode cX9_cellar 55 = .ok (.iadd, 1) := by decide +kernel
theorem dX9_cellar_56 : decode cX9_cellar 56 = .ok (.iconst 0, 1) := by decide +kernel
theorem dX9_cellar_57 : decode cX9_cellar 57 = .ok (.iastore, 1) := by decide +kernel
theorem dX9_cellar_58 : decode cX9_cellar 58 = .ok (.aload_n 0, 1) := by decide +kernel
theorem dX9_cellar_59 : decode cX9_cellar 59 = .ok (.getfield 38, 3) := by decide +kernel
theorem dX9_cellar_62 : decode cX9_cellar 62 = .ok (.bipush 8, 2) := by decide +kernel
theorem dX9_cellar_64 : decode cX9_cellar 64 = .ok (.iload_n 1, 1) := by decide +kernel
theorem dX9_cellar_65 : decode cX9_cellar 65 = .ok (.iadd, 1) := by decide +kernel
theorem dX9_cellar_66 : decode cX9_cellar 66 = .ok (.iconst 0, 1) := by decide +kernel
theorem dX9_cellar_67 : decode cX9_cellar 67 = .ok (.iastore, 1) := by decide +kernel
theorem dX9_cellar_68 : decode cX9_cellar 68 = .ok (.iinc 1 1, 3) := by decide +kernel
theorem dX9_cellar_71 : decode cX9_cellar 71 = .ok (.goto (-29), 3) := by decide +kernel
theorem dX9_cellar_74 : decode cX9_cellar 74 = .ok (.iconst 0, 1) := by decide +kernel
theorem dX9_cellar_75 : decode cX9_cellar 75 = .ok (.istore_n 1, 1) := by decide +kernel
theorem dX9_cellar_76 : decode cX9_cellar 76 = .ok (.aload_n 0, 1) := by decide +kernel
theorem dX9_cellar_77 : decode cX9_cellar 77 = .ok (.invokevirtual 136, 3) := by decide +kernel
theorem dX9_cellar_80 : decode cX9_cellar 80 = .ok (.aload_n 0, 1) := by decide +kernel
theorem dX9_cellar_81 : decode cX9_cellar 81 = .ok (.getfield 133, 3) := by decide +kernel
theorem dX9_cellar_84 : decode cX9_cellar 84 = .ok (.bipush (-9), 2) := by decide +kernel
theorem dX9_cellar_86 : decode cX9_cellar 86 = .ok (.if_icmp .ne 25, 3) := by decide +kernel
theorem dX9_cellar_89 : decode cX9_cellar 89 = .ok (.aload_n 0, 1) := by decide +kernel
theorem dX9_cellar_90 : decode cX9_cellar 90 = .ok (.getfield 126, 3) := by decide +kernel
theorem dX9_cellar_93 : decode cX9_cellar 93 = .ok (.ifCond .eq 18, 3) := by decide +kernel
theorem dX9_cellar_96 : decode cX9_cellar 96 = .ok (.aload_n 0, 1) := by decide +kernel
theorem dX9_cellar_97 : decode cX9_cellar 97 = .ok (.aload_n 0, 1) := by decide +kernel
theorem dX9_cellar_98 : decode cX9_cellar 98 = .ok (.getfield 126, 3) := by decide +kernel
theorem dX9_cellar_101 : decode cX9_cellar 101 = .ok (.iload_n 1, 1) := by decide +kernel
theorem dX9_cellar_102 : decode cX9_cellar 102 = .ok (.invokevirtual 150, 3) := by decide +kernel
theorem dX9_cellar_105 : decode cX9_cellar 105 = .ok (.iinc 1 1, 3) := by decide +kernel
theorem dX9_cellar_108 : decode cX9_cellar 108 = .ok (.goto (-28), 3) := by decide +kernel
theorem dX9_cellar_111 : decode cX9_cellar 111 = .ok (.aload_n 0, 1) := by decide +kernel
theorem dX9_cellar_112 : decode cX9_cellar 112 = .ok (.getfield 133, 3) := by decide +kernel
theorem dX9_cellar_115 : decode cX9_cellar 115 = .ok (.bipush (-9), 2) := by decide +kernel
theorem dX9_cellar_117 : decode cX9_cellar 117 = .ok (.if_icmp .eq 11, 3) := by decide +kernel
theorem dX9_cellar_120 : decode cX9_cellar 120 = .ok (.bipush (-10), 2) := by decide +kernel
theorem dX9_cellar_122 : decode cX9_cellar 122 = .ok (.aload_n 0, 1) := by decide +kernel
theorem dX9_cellar_123 : decode cX9_cellar 123 = .ok (.getfield 133, 3) := by decide +kernel
theorem dX9_cellar_126 : decode cX9_cellar 126 = .ok (.isub, 1) := by decide +kernel
theorem dX9_cellar_127 : decode cX9_cellar 127 = .ok (.ireturn, 1) := by decide +kernel
theorem dX9_cellar_128 : decode cX9_cellar 128 = .ok (.aload_n 0, 1) := by decide +kernel
theorem dX9_cellar_129 : decode cX9_cellar 129 = .ok (.getfield 13, 3) := by decide +kernel
theorem dX9_cellar_132 : decode cX9_cellar 132 = .ok (.iconst 0, 1) := by decide +kernel
theorem dX9_cellar_133 : decode cX9_cellar 133 = .ok (.aload_n 0, 1) := by decide +kernel
theorem dX9_cellar_134 : decode cX9_cellar 134 = .ok (.getfield 13, 3) := by decide +kernel
theorem dX9_cellar_137 : decode cX9_cellar 137 = .ok (.iconst 1, 1) := by decide +kernel
theorem dX9_cellar_138 : decode cX9_cellar 138 = .ok (.iaload, 1) := by decide +kernel
theorem dX9_cellar_139 : decode cX9_cellar 139 = .ok (.iastore, 1) := by decide +kernel
theorem dX9_cellar_140 : decode cX9_cellar 140 = .ok (.aload_n 0, 1) := by decide +kernel
theorem dX9_cellar_141 : decode cX9_cellar 141 = .ok (.getfield 17, 3) := by decide +kernel
theorem dX9_cellar_144 : decode cX9_cellar 144 = .ok (.iconst 0, 1) := by decide +kernel
theorem dX9_cellar_145 : decode cX9_cellar 145 = .ok (.aload_n 0, 1) := by decide +kernel
theorem dX9_cellar_146 : decode cX9_cellar 146 = .ok (.getfield 17, 3) := by decide +kernel
theorem dX9_cellar_149 : decode cX9_cellar 149 = .ok (.iconst 1, 1) := by decide +kernel
theorem dX9_cellar_150 : decode cX9_cellar 150 = .ok (.iaload, 1) := by decide +kernel
theorem dX9_cellar_151 : decode cX9_cellar 151 = .ok (.iastore, 1) := by decide +kernel
theorem dX9_cellar_152 : decode cX9_cellar 152 = .ok (.aload_n 0, 1) := by decide +kernel
theorem dX9_cellar_153 : decode cX9_cellar 153 = .ok (.getfield 20, 3) := by decide +kernel
theorem dX9_cellar_156 : decode cX9_cellar 156 = .ok (.iconst 0, 1) := by decide +kernel
theorem dX9_cellar_157 : decode cX9_cellar 157 = .ok (.aload_n 0, 1) := by decide +kernel
theorem dX9_cellar_158 : decode cX9_cellar 158 = .ok (.getfield 20, 3) := by decide +kernel
theorem dX9_cellar_161 : decode cX9_cellar 161 = .ok (.iconst 1, 1) := by decide +kernel
theorem dX9_cellar_162 : decode cX9_cellar 162 = .ok (.iaload, 1) := by decide +kernel
theorem dX9_cellar_163 : decode cX9_cellar 163 = .ok (.iastore, 1) := by decide +kernel
theorem dX9_cellar_164 : decode cX9_cellar 164 = .ok (.aload_n 0, 1) := by decide +kernel
theorem dX9_cellar_165 : decode cX9_cellar 165 = .ok (.getfield 23, 3) := by decide +kernel
theorem dX9_cellar_168 : decode cX9_cellar 168 = .ok (.iconst 0, 1) := by decide +kernel
theorem dX9_cellar_169 : decode cX9_cellar 169 = .ok (.aload_n 0, 1) := by decide +kernel
theorem dX9_cellar_170 : decode cX9_cellar 170 = .ok (.getfield 23, 3) := by decide +kernel
theorem dX9_cellar_173 : decode cX9_cellar 173 = .ok (.iconst 1, 1) := by decide +kernel
theorem dX9_cellar_174 : decode cX9_cellar 174 = .ok (.iaload, 1) := by decide +kernel
theorem dX9_cellar_175 : decode cX9_cellar 175 = .ok (.iastore, 1) := by decide +kernel
theorem dX9_cellar_176 : decode cX9_cellar 176 = .ok (.iconst 0, 1) := by decide +kernel
theorem dX9_cellar_177 : decode cX9_cellar 177 = .ok (.istore_n 2, 1) := by decide +kernel
theorem dX9_cellar_178 : decode cX9_cellar 178 = .ok (.iload_n 2, 1) := by decide +kernel
theorem dX9_cellar_179 : decode cX9_cellar 179 = .ok (.bipush 56, 2) := by decide +kernel
theorem dX9_cellar_181 : decode cX9_cellar 181 = .ok (.if_icmp .ge 24, 3) := by decide +kernel
theorem dX9_cellar_184 : decode cX9_cellar 184 = .ok (.aload_n 0, 1) := by decide +kernel
theorem dX9_cellar_185 : decode cX9_cellar 185 = .ok (.getfield 26, 3) := by decide +kernel
theorem dX9_cellar_188 : decode cX9_cellar 188 = .ok (.iload_n 2, 1) := by decide +kernel
theorem dX9_cellar_189 : decode cX9_cellar 189 = .ok (.aload_n 0, 1) := by decide +kernel
theorem dX9_cellar_190 : decode cX9_cellar 190 = .ok (.getfield 26, 3) := by decide +kernel
theorem dX9_cellar_193 : decode cX9_cellar 193 = .ok (.bipush 56, 2) := by decide +kernel
theorem dX9_cellar_195 : decode cX9_cellar 195 = .ok (.iload_n 2, 1) := by decide +kernel
theorem dX9_cellar_196 : decode cX9_cellar 196 = .ok (.iadd, 1) := by decide +kernel
theorem dX9_cellar_197 : decode cX9_cellar 197 = .ok (.iaload, 1) := by decide +kernel
theorem dX9_cellar_198 : decode cX9_cellar 198 = .ok (.iastore, 1) := by decide +kernel
theorem dX9_cellar_199 : decode cX9_cellar 199 = .ok (.iinc 2 1, 3) := by decide +kernel
theorem dX9_cellar_202 : decode cX9_cellar 202 = .ok (.goto (-24), 3) := by decide +kernel
theorem dX9_cellar_205 : decode cX9_cellar 205 = .ok (.iconst 0, 1) := by decide +kernel
theorem dX9_cellar_206 : decode cX9_cellar 206 = .ok (.istore_n 2, 1) := by decide +kernel
theorem dX9_cellar_207 : decode cX9_cellar 207 = .ok (.iload_n 2, 1) := by decide +kernel
theorem dX9_cellar_208 : decode cX9_cellar 208 = .ok (.iconst 3, 1) := by decide +kernel
theorem dX9_cellar_209 : decode cX9_cellar 209 = .ok (.if_icmp .ge 37, 3) := by decide +kernel
theorem dX9_cellar_212 : decode cX9_cellar 212 = .ok (.aload_n 0, 1) := by decide +kernel
theorem dX9_cellar_213 : decode cX9_cellar 213 = .ok (.getfield 29, 3) := by decide +kernel
theorem dX9_cellar_216 : decode cX9_cellar 216 = .ok (.iload_n 2, 1) := by decide +kernel
theorem dX9_cellar_217 : decode cX9_cellar 217 = .ok (.aload_n 0, 1) := by decide +kernel
theorem dX9_cellar_218 : decode cX9_cellar 218 = .ok (.getfield 29, 3) := by decide +kernel
theorem dX9_cellar_221 : decode cX9_cellar 221 = .ok (.iconst 3, 1) := by decide +kernel
theorem dX9_cellar_222 : decode cX9_cellar 222 = .ok (.iload_n 2, 1) := by decide +kernel
theorem dX9_cellar_223 : decode cX9_cellar 223 = .ok (.iadd, 1) := by decide +kernel
theorem dX9_cellar_224 : decode cX9_cellar 224 = .ok (.iaload, 1) := by decide +kernel
theorem dX9_cellar_225 : decode cX9_cellar 225 = .ok (.iastore, 1) := by decide +kernel
theorem dX9_cellar_226 : decode cX9_cellar 226 = .ok (.aload_n 0, 1) := by decide +kernel
theorem dX9_cellar_227 : decode cX9_cellar 227 = .ok (.getfield 32, 3) := by decide +kernel
theorem dX9_cellar_230 : decode cX9_cellar 230 = .ok (.iload_n 2, 1) := by decide +kernel
theorem dX9_cellar_231 : decode cX9_cellar 231 = .ok (.aload_n 0, 1) := by decide +kernel
theorem dX9_cellar_232 : decode cX9_cellar 232 = .ok (.getfield 32, 3) := by decide +kernel
theorem dX9_cellar_235 : decode cX9_cellar 235 = .ok (.iconst 3, 1) := by decide +kernel
theorem dX9_cellar_236 : decode cX9_cellar 236 = .ok (.iload_n 2, 1) := by decide +kernel
theorem dX9_cellar_237 : decode cX9_cellar 237 = .ok (.iadd, 1) := by decide +kernel
theorem dX9_cellar_238 : decode cX9_cellar 238 = .ok (.iaload, 1) := by decide +kernel
theorem dX9_cellar_239 : decode cX9_cellar 239 = .ok (.iastore, 1) := by decide +kernel
theorem dX9_cellar_240 : decode cX9_cellar 240 = .ok (.iinc 2 1, 3) := by decide +kernel
theorem dX9_cellar_243 : decode cX9_cellar 243 = .ok (.goto (-36), 3) := by decide +kernel
theorem dX9_cellar_246 : decode cX9_cellar 246 = .ok (.iconst 0, 1) := by decide +kernel
theorem dX9_cellar_247 : decode cX9_cellar 247 = .ok (.istore_n 2, 1) := by decide +kernel
theorem dX9_cellar_248 : decode cX9_cellar 248 = .ok (.iload_n 2, 1) := by decide +kernel
theorem dX9_cellar_249 : decode cX9_cellar 249 = .ok (.bipush 8, 2) := by decide +kernel
theorem dX9_cellar_251 : decode cX9_cellar 251 = .ok (.if_icmp .ge 39, 3) := by decide +kernel
theorem dX9_cellar_254 : decode cX9_cellar 254 = .ok (.aload_n 0, 1) := by decide +kernel
theorem dX9_cellar_255 : decode cX9_cellar 255 = .ok (.getfield 35, 3) := by decide +kernel
theorem dX9_cellar_258 : decode cX9_cellar 258 = .ok (.iload_n 2, 1) := by decide +kernel
theorem dX9_cellar_259 : decode cX9_cellar 259 = .ok (.aload_n 0, 1) := by decide +kernel
theorem dX9_cellar_260 : decode cX9_cellar 260 = .ok (.getfield 35, 3) := by decide +kernel
theorem dX9_cellar_263 : decode cX9_cellar 263 = .ok (.bipush 8, 2) := by decide +kernel
theorem dX9_cellar_265 : decode cX9_cellar 265 = .ok (.iload_n 2, 1) := by decide +kernel
theorem dX9_cellar_266 : decode cX9_cellar 266 = .ok (.iadd, 1) := by decide +kernel
theorem dX9_cellar_267 : decode cX9_cellar 267 = .ok (.iaload, 1) := by decide +kernel
theorem dX9_cellar_268 : decode cX9_cellar 268 = .ok (.iastore, 1) := by decide +kernel
theorem dX9_cellar_269 : decode cX9_cellar 269 = .ok (.aload_n 0, 1) := by decide +kernel
theorem dX9_cellar_270 : decode cX9_cellar 270 = .ok (.getfield 38, 3) := by decide +kernel
theorem dX9_cellar_273 : decode cX9_cellar 273 = .ok (.iload_n 2, 1) := by decide +kernel
theorem dX9_cellar_274 : decode cX9_cellar 274 = .ok (.aload_n 0, 1) := by decide +kernel
theorem dX9_cellar_275 : decode cX9_cellar 275 = .ok (.getfield 38, 3) := by decide +kernel
theorem dX9_cellar_278 : decode cX9_cellar 278 = .ok (.bipush 8, 2) := by decide +kernel
theorem dX9_cellar_280 : decode cX9_cellar 280 = .ok (.iload_n 2, 1) := by decide +kernel
theorem dX9_cellar_281 : decode cX9_cellar 281 = .ok (.iadd, 1) := by decide +kernel
theorem dX9_cellar_282 : decode cX9_cellar 282 = .ok (.iaload, 1) := by decide +kernel
theorem dX9_cellar_283 : decode cX9_cellar 283 = .ok (.iastore, 1) := by decide +kernel
theorem dX9_cellar_284 : decode cX9_cellar 284 = .ok (.iinc 2 1, 3) := by decide +kernel
theorem dX9_cellar_287 : decode cX9_cellar 287 = .ok (.goto (-39), 3) := by decide +kernel
theorem dX9_cellar_290 : decode cX9_cellar 290 = .ok (.aload_n 0, 1) := by decide +kernel
theorem dX9_cellar_291 : decode cX9_cellar 291 = .ok (.invokevirtual 154, 3) := by decide +kernel
theorem dX9_cellar_294 : decode cX9_cellar 294 = .ok (.aload_n 0, 1) := by decide +kernel
theorem dX9_cellar_295 : decode cX9_cellar 295 = .ok (.getfield 66, 3) := by decide +kernel
theorem dX9_cellar_298 : decode cX9_cellar 298 = .ok (.iconst 0, 1) := by decide +kernel
theorem dX9_cellar_299 : decode cX9_cellar 299 = .ok (.iconst 0, 1) := by decide +kernel
theorem dX9_cellar_300 : decode cX9_cellar 300 = .ok (.bastore, 1) := by decide +kernel
theorem dX9_cellar_301 : decode cX9_cellar 301 = .ok (.aload_n 0, 1) := by decide +kernel
theorem dX9_cellar_302 : decode cX9_cellar 302 = .ok (.getfield 66, 3) := by decide +kernel
theorem dX9_cellar_305 : decode cX9_cellar 305 = .ok (.iconst 1, 1) := by decide +kernel
theorem dX9_cellar_306 : decode cX9_cellar 306 = .ok (.iconst 0, 1) := by decide +kernel
theorem dX9_cellar_307 : decode cX9_cellar 307 = .ok (.bastore, 1) := by decide +kernel
theorem dX9_cellar_308 : decode cX9_cellar 308 = .ok (.aload_n 0, 1) := by decide +kernel
theorem dX9_cellar_309 : decode cX9_cellar 309 = .ok (.iconst 0, 1) := by decide +kernel
theorem dX9_cellar_310 : decode cX9_cellar 310 = .ok (.invokevirtual 157, 3) := by decide +kernel
theorem dX9_cellar_313 : decode cX9_cellar 313 = .ok (.aload_n 0, 1) := by decide +kernel
theorem dX9_cellar_314 : decode cX9_cellar 314 = .ok (.iconst 0, 1) := by decide +kernel
theorem dX9_cellar_315 : decode cX9_cellar 315 = .ok (.putfield 107, 3) := by decide +kernel
theorem dX9_cellar_318 : decode cX9_cellar 318 = .ok (.iload_n 1, 1) := by decide +kernel
theorem dX9_cellar_319 : decode cX9_cellar 319 = .ok (.ireturn, 1) := by decide +kernel
theorem dX9_begin_0 : decode cX9_begin 0 = .ok (.aload_n 0, 1) := by decide +kernel
theorem dX9_begin_1 : decode cX9_begin 1 = .ok (.getfield 41, 3) := by decide +kernel
theorem dX9_begin_4 : decode cX9_begin 4 = .ok (.iconst 0, 1) := by decide +kernel
theorem dX9_begin_5 : decode cX9_begin 5 = .ok (.iconst 0, 1) := by decide +kernel
theorem dX9_begin_6 : decode cX9_begin 6 = .ok (.iastore, 1) := by decide +kernel
theorem dX9_begin_7 : decode cX9_begin 7 = .ok (.aload_n 0, 1) := by decide +kernel
theorem dX9_begin_8 : decode cX9_begin 8 = .ok (.getfield 44, 3) := by decide +kernel
theorem dX9_begin_11 : decode cX9_begin 11 = .ok (.iconst 0, 1) := by decide +kernel
theorem dX9_begin_12 : decode cX9_begin 12 = .ok (.iconst 0, 1) := by decide +kernel
theorem dX9_begin_13 : decode cX9_begin 13 = .ok (.bastore, 1) := by decide +kernel
theorem dX9_begin_14 : decode cX9_begin 14 = .ok (.aload_n 0, 1) := by decide +kernel
theorem dX9_begin_15 : decode cX9_begin 15 = .ok (.getfield 48, 3) := by decide +kernel
theorem dX9_begin_18 : decode cX9_begin 18 = .ok (.iconst 0, 1) := by decide +kernel
theorem dX9_begin_19 : decode cX9_begin 19 = .ok (.iconst 0, 1) := by decide +kernel
theorem dX9_begin_20 : decode cX9_begin 20 = .ok (.iastore, 1) := by decide +kernel
theorem dX9_begin_21 : decode cX9_begin 21 = .ok (.aload_n 0, 1) := by decide +kernel
theorem dX9_begin_22 : decode cX9_begin 22 = .ok (.getfield 51, 3) := by decide +kernel
theorem dX9_begin_25 : decode cX9_begin 25 = .ok (.iconst 0, 1) := by decide +kernel
theorem dX9_begin_26 : decode cX9_begin 26 = .ok (.iconst 0, 1) := by decide +kernel
theorem dX9_begin_27 : decode cX9_begin 27 = .ok (.iastore, 1) := by decide +kernel
theorem dX9_begin_28 : decode cX9_begin 28 = .ok (.iconst 0, 1) := by decide +kernel
theorem dX9_begin_29 : decode cX9_begin 29 = .ok (.istore_n 1, 1) := by decide +kernel
theorem dX9_begin_30 : decode cX9_begin 30 = .ok (.iload_n 1, 1) := by decide +kernel
theorem dX9_begin_31 : decode cX9_begin 31 = .ok (.iconst 3, 1) := by decide +kernel
theorem dX9_begin_32 : decode cX9_begin 32 = .ok (.if_icmp .ge 35, 3) := by decide +kernel
theorem dX9_begin_35 : decode cX9_begin 35 = .ok (.aload_n 0, 1) := by decide +kernel
theorem dX9_begin_36 : decode cX9_begin 36 = .ok (.getfield 57, 3) := by decide +kernel
theorem dX9_begin_39 : decode cX9_begin 39 = .ok (.iload_n 1, 1) := by decide +kernel
theorem dX9_begin_40 : decode cX9_begin 40 = .ok (.iconst 0, 1) := by decide +kernel
theorem dX9_begin_41 : decode cX9_begin 41 = .ok (.iastore, 1) := by decide +kernel
theorem dX9_begin_42 : decode cX9_begin 42 = .ok (.aload_n 0, 1) := by decide +kernel
theorem dX9_begin_43 : decode cX9_begin 43 = .ok (.getfield 60, 3) := by decide +kernel
theorem dX9_begin_46 : decode cX9_begin 46 = .ok (.iload_n 1, 1) := by decide +kernel
theorem dX9_begin_47 : decode cX9_begin 47 = .ok (.aload_n 0, 1) := by decide +kernel
theorem dX9_begin_48 : decode cX9_begin 48 = .ok (.getfield 32, 3) := by decide +kernel
theorem dX9_begin_51 : decode cX9_begin 51 = .ok (.iload_n 1, 1) := by decide +kernel
theorem dX9_begin_52 : decode cX9_begin 52 = .ok (.iaload, 1) := by decide +kernel
theorem dX9_begin_53 : decode cX9_begin 53 = .ok (.iastore, 1) := by decide +kernel
theorem dX9_begin_54 : decode cX9_begin 54 = .ok (.aload_n 0, 1) := by decide +kernel
theorem dX9_begin_55 : decode cX9_begin 55 = .ok (.getfield 63, 3) := by decide +kernel
theorem dX9_begin_58 : decode cX9_begin 58 = .ok (.iload_n 1, 1) := by decide +kernel
theorem dX9_begin_59 : decode cX9_begin 59 = .ok (.iconst 0, 1) := by decide +kernel
theorem dX9_begin_60 : decode cX9_begin 60 = .ok (.bastore, 1) := by decide +kernel
theorem dX9_begin_61 : decode cX9_begin 61 = .ok (.iinc 1 1, 3) := by decide +kernel
theorem dX9_begin_64 : decode cX9_begin 64 = .ok (.goto (-34), 3) := by decide +kernel
theorem dX9_begin_67 : decode cX9_begin 67 = .ok (.return_, 1) := by decide +kernel
theorem dX9_isWheel_0 : decode cX9_isWheel 0 = .ok (.iload_n 1, 1) := by decide +kernel
theorem dX9_isWheel_1 : decode cX9_isWheel 1 = .ok (.iconst 0, 1) := by decide +kernel
theorem dX9_isWheel_2 : decode cX9_isWheel 2 = .ok (.aload_n 0, 1) := by decide +kernel
theorem dX9_isWheel_3 : decode cX9_isWheel 3 = .ok (.getfield 17, 3) := by decide +kernel
theorem dX9_isWheel_6 : decode cX9_isWheel 6 = .ok (.iconst 0, 1) := by decide +kernel
theorem dX9_isWheel_7 : decode cX9_isWheel 7 = .ok (.iaload, 1) := by decide +kernel
theorem dX9_isWheel_8 : decode cX9_isWheel 8 = .ok (.iconst 1, 1) := by decide +kernel
theorem dX9_isWheel_9 : decode cX9_isWheel 9 = .ok (.isub, 1) := by decide +kernel
theorem dX9_isWheel_10 : decode cX9_isWheel 10 = .ok (.invokestatic 103, 3) := by decide +kernel
theorem dX9_isWheel_13 : decode cX9_isWheel 13 = .ok (.ireturn, 1) := by decide +kernel
theorem dX9_isOver_0 : decode cX9_isOver 0 = .ok (.aload_n 0, 1) := by decide +kernel
theorem dX9_isOver_1 : decode cX9_isOver 1 = .ok (.getfield 41, 3) := by decide +kernel
theorem dX9_isOver_4 : decode cX9_isOver 4 = .ok (.iconst 0, 1) := by decide +kernel
theorem dX9_isOver_5 : decode cX9_isOver 5 = .ok (.iaload, 1) := by decide +kernel
theorem dX9_isOver_6 : decode cX9_isOver 6 = .ok (.aload_n 0, 1) := by decide +kernel
theorem dX9_isOver_7 : decode cX9_isOver 7 = .ok (.getfield 20, 3) := by decide +kernel
theorem dX9_isOver_10 : decode cX9_isOver 10 = .ok (.iconst 0, 1) := by decide +kernel
theorem dX9_isOver_11 : decode cX9_isOver 11 = .ok (.iaload, 1) := by decide +kernel
theorem dX9_isOver_12 : decode cX9_isOver 12 = .ok (.if_icmp .ne 7, 3) := by decide +kernel
theorem dX9_isOver_15 : decode cX9_isOver 15 = .ok (.iconst 1, 1) := by decide +kernel
theorem dX9_isOver_16 : decode cX9_isOver 16 = .ok (.goto 4, 3) := by decide +kernel
theorem dX9_isOver_19 : decode cX9_isOver 19 = .ok (.iconst 0, 1) := by decide +kernel
theorem dX9_isOver_20 : decode cX9_isOver 20 = .ok (.ireturn, 1) := by decide +kernel
theorem dX9_goodOf_0 : decode cX9_goodOf 0 = .ok (.aload_n 0, 1) := by decide +kernel
theorem dX9_goodOf_1 : decode cX9_goodOf 1 = .ok (.getfield 26, 3) := by decide +kernel
theorem dX9_goodOf_4 : decode cX9_goodOf 4 = .ok (.bipush 14, 2) := by decide +kernel
theorem dX9_goodOf_6 : decode cX9_goodOf 6 = .ok (.aload_n 0, 1) := by decide +kernel
theorem dX9_goodOf_7 : decode cX9_goodOf 7 = .ok (.getfield 29, 3) := by decide +kernel
theorem dX9_goodOf_10 : decode cX9_goodOf 10 = .ok (.iload_n 1, 1) := by decide +kernel
theorem dX9_goodOf_11 : decode cX9_goodOf 11 = .ok (.iaload, 1) := by decide +kernel
theorem dX9_goodOf_12 : decode cX9_goodOf 12 = .ok (.imul, 1) := by decide +kernel
theorem dX9_goodOf_13 : decode cX9_goodOf 13 = .ok (.iload_n 2, 1) := by decide +kernel
theorem dX9_goodOf_14 : decode cX9_goodOf 14 = .ok (.iadd, 1) := by decide +kernel
theorem dX9_goodOf_15 : decode cX9_goodOf 15 = .ok (.iaload, 1) := by decide +kernel
theorem dX9_goodOf_16 : decode cX9_goodOf 16 = .ok (.ireturn, 1) := by decide +kernel
theorem dX9_warmth_0 : decode cX9_warmth 0 = .ok (.iload_n 1, 1) := by decide +kernel
theorem dX9_warmth_1 : decode cX9_warmth 1 = .ok (.bipush 8, 2) := by decide +kernel
theorem dX9_warmth_3 : decode cX9_warmth 3 = .ok (.if_icmp .ge 12, 3) := by decide +kernel
theorem dX9_warmth_6 : decode cX9_warmth 6 = .ok (.aload_n 0, 1) := by decide +kernel
theorem dX9_warmth_7 : decode cX9_warmth 7 = .ok (.getfield 35, 3) := by decide +kernel
theorem dX9_warmth_10 : decode cX9_warmth 10 = .ok (.iload_n 1, 1) := by decide +kernel
theorem dX9_warmth_11 : decode cX9_warmth 11 = .ok (.iaload, 1) := by decide +kernel
theorem dX9_warmth_12 : decode cX9_warmth 12 = .ok (.goto 4, 3) := by decide +kernel
theorem dX9_warmth_15 : decode cX9_warmth 15 = .ok (.iconst 0, 1) := by decide +kernel
theorem dX9_warmth_16 : decode cX9_warmth 16 = .ok (.ireturn, 1) := by decide +kernel
theorem dX9_goes_0 : decode cX9_goes 0 = .ok (.iload_n 3, 1) := by decide +kernel
theorem dX9_goes_1 : decode cX9_goes 1 = .ok (.ifCond .eq 17, 3) := by decide +kernel
theorem dX9_goes_4 : decode cX9_goes 4 = .ok (.iload_n 2, 1) := by decide +kernel
theorem dX9_goes_5 : decode cX9_goes 5 = .ok (.iconst 3, 1) := by decide +kernel
theorem dX9_goes_6 : decode cX9_goes 6 = .ok (.if_icmp .eq 12, 3) := by decide +kernel
theorem dX9_goes_9 : decode cX9_goes 9 = .ok (.aload_n 0, 1) := by decide +kernel
theorem dX9_goes_10 : decode cX9_goes 10 = .ok (.getfield 63, 3) := by decide +kernel
theorem dX9_goes_13 : decode cX9_goes 13 = .ok (.iload_n 1, 1) := by decide +kernel
theorem dX9_goes_14 : decode cX9_goes 14 = .ok (.baload, 1) := by decide +kernel
theorem dX9_goes_15 : decode cX9_goes 15 = .ok (.ifCond .eq 5, 3) := by decide +kernel
theorem dX9_goes_18 : decode cX9_goes 18 = .ok (.iconst 0, 1) := by decide +kernel
theorem dX9_goes_19 : decode cX9_goes 19 = .ok (.ireturn, 1) := by decide +kernel
theorem dX9_goes_20 : decode cX9_goes 20 = .ok (.aload_n 0, 1) := by decide +kernel
theorem dX9_goes_21 : decode cX9_goes 21 = .ok (.getfield 26, 3) := by decide +kernel
theorem dX9_goes_24 : decode cX9_goes 24 = .ok (.bipush 14, 2) := by decide +kernel
theorem dX9_goes_26 : decode cX9_goes 26 = .ok (.aload_n 0, 1) := by decide +kernel
theorem dX9_goes_27 : decode cX9_goes 27 = .ok (.getfield 29, 3) := by decide +kernel
theorem dX9_goes_30 : decode cX9_goes 30 = .ok (.iload_n 1, 1) := by decide +kernel
theorem dX9_goes_31 : decode cX9_goes 31 = .ok (.iaload, 1) := by decide +kernel
theorem dX9_goes_32 : decode cX9_goes 32 = .ok (.imul, 1) := by decide +kernel
theorem dX9_goes_33 : decode cX9_goes 33 = .ok (.iload_n 3, 1) := by decide +kernel
theorem dX9_goes_34 : decode cX9_goes 34 = .ok (.aload_n 0, 1) := by decide +kernel
theorem dX9_goes_35 : decode cX9_goes 35 = .ok (.getfield 32, 3) := by decide +kernel
theorem dX9_goes_38 : decode cX9_goes 38 = .ok (.iload_n 1, 1) := by decide +kernel
theorem dX9_goes_39 : decode cX9_goes 39 = .ok (.iaload, 1) := by decide +kernel
theorem dX9_goes_40 : decode cX9_goes 40 = .ok (.if_icmp .ne 7, 3) := by decide +kernel
theorem dX9_goes_43 : decode cX9_goes 43 = .ok (.iconst 4, 1) := by decide +kernel
theorem dX9_goes_44 : decode cX9_goes 44 = .ok (.goto 5, 3) := by decide +kernel
theorem dX9_goes_47 : decode cX9_goes 47 = .ok (.bipush 7, 2) := by decide +kernel
theorem dX9_goes_49 : decode cX9_goes 49 = .ok (.iadd, 1) := by decide +kernel
theorem dX9_goes_50 : decode cX9_goes 50 = .ok (.iload_n 2, 1) := by decide +kernel
theorem dX9_goes_51 : decode cX9_goes 51 = .ok (.iadd, 1) := by decide +kernel
theorem dX9_goes_52 : decode cX9_goes 52 = .ok (.iaload, 1) := by decide +kernel
theorem dX9_goes_53 : decode cX9_goes 53 = .ok (.istore 5, 2) := by decide +kernel
theorem dX9_goes_55 : decode cX9_goes 55 = .ok (.iload 5, 2) := by decide +kernel
theorem dX9_goes_57 : decode cX9_goes 57 = .ok (.aload_n 0, 1) := by decide +kernel
theorem dX9_goes_58 : decode cX9_goes 58 = .ok (.iload 4, 2) := by decide +kernel
theorem dX9_goes_60 : decode cX9_goes 60 = .ok (.invokevirtual 161, 3) := by decide +kernel
theorem dX9_goes_63 : decode cX9_goes 63 = .ok (.iadd, 1) := by decide +kernel
theorem dX9_goes_64 : decode cX9_goes 64 = .ok (.istore 6, 2) := by decide +kernel
theorem dX9_goes_66 : decode cX9_goes 66 = .ok (.iload 5, 2) := by decide +kernel
theorem dX9_goes_68 : decode cX9_goes 68 = .ok (.ifCond .ne 7, 3) := by decide +kernel
theorem dX9_goes_71 : decode cX9_goes 71 = .ok (.iconst 0, 1) := by decide +kernel
theorem dX9_goes_72 : decode cX9_goes 72 = .ok (.goto 17, 3) := by decide +kernel
theorem dX9_goes_75 : decode cX9_goes 75 = .ok (.iload 6, 2) := by decide +kernel
theorem dX9_goes_77 : decode cX9_goes 77 = .ok (.bipush 10, 2) := by decide +kernel
theorem dX9_goes_79 : decode cX9_goes 79 = .ok (.if_icmp .le 8, 3) := by decide +kernel
theorem dX9_goes_82 : decode cX9_goes 82 = .ok (.bipush 10, 2) := by decide +kernel
theorem dX9_goes_84 : decode cX9_goes 84 = .ok (.goto 5, 3) := by decide +kernel
theorem dX9_goes_87 : decode cX9_goes 87 = .ok (.iload 6, 2) := by decide +kernel
theorem dX9_goes_89 : decode cX9_goes 89 = .ok (.ireturn, 1) := by decide +kernel
theorem dX9_sort_0 : decode cX9_sort 0 = .ok (.iload_n 1, 1) := by decide +kernel
theorem dX9_sort_1 : decode cX9_sort 1 = .ok (.iconst 0, 1) := by decide +kernel
theorem dX9_sort_2 : decode cX9_sort 2 = .ok (.aload_n 0, 1) := by decide +kernel
theorem dX9_sort_3 : decode cX9_sort 3 = .ok (.getfield 13, 3) := by decide +kernel
theorem dX9_sort_6 : decode cX9_sort 6 = .ok (.iconst 0, 1) := by decide +kernel
theorem dX9_sort_7 : decode cX9_sort 7 = .ok (.iaload, 1) := by decide +kernel
theorem dX9_sort_8 : decode cX9_sort 8 = .ok (.iconst 1, 1) := by decide +kernel
theorem dX9_sort_9 : decode cX9_sort 9 = .ok (.isub, 1) := by decide +kernel
theorem dX9_sort_10 : decode cX9_sort 10 = .ok (.invokestatic 103, 3) := by decide +kernel
theorem dX9_sort_13 : decode cX9_sort 13 = .ok (.ifCond .eq 27, 3) := by decide +kernel
theorem dX9_sort_16 : decode cX9_sort 16 = .ok (.iload_n 2, 1) := by decide +kernel
theorem dX9_sort_17 : decode cX9_sort 17 = .ok (.iconst 0, 1) := by decide +kernel
theorem dX9_sort_18 : decode cX9_sort 18 = .ok (.bipush 13, 2) := by decide +kernel
theorem dX9_sort_20 : decode cX9_sort 20 = .ok (.invokestatic 103, 3) := by decide +kernel
theorem dX9_sort_23 : decode cX9_sort 23 = .ok (.ifCond .eq 17, 3) := by decide +kernel
theorem dX9_sort_26 : decode cX9_sort 26 = .ok (.aload_n 0, 1) := by decide +kernel
theorem dX9_sort_27 : decode cX9_sort 27 = .ok (.getfield 26, 3) := by decide +kernel
theorem dX9_sort_30 : decode cX9_sort 30 = .ok (.bipush 14, 2) := by decide +kernel
theorem dX9_sort_32 : decode cX9_sort 32 = .ok (.iload_n 1, 1) := by decide +kernel
theorem dX9_sort_33 : decode cX9_sort 33 = .ok (.imul, 1) := by decide +kernel
theorem dX9_sort_34 : decode cX9_sort 34 = .ok (.iload_n 2, 1) := by decide +kernel
theorem dX9_sort_35 : decode cX9_sort 35 = .ok (.iadd, 1) := by decide +kernel
theorem dX9_sort_36 : decode cX9_sort 36 = .ok (.iaload, 1) := by decide +kernel
theorem dX9_sort_37 : decode cX9_sort 37 = .ok (.goto 4, 3) := by decide +kernel
theorem dX9_sort_40 : decode cX9_sort 40 = .ok (.iconst (-1), 1) := by decide +kernel
theorem dX9_sort_41 : decode cX9_sort 41 = .ok (.ireturn, 1) := by decide +kernel
theorem dX9_wheel_0 : decode cX9_wheel 0 = .ok (.aload_n 0, 1) := by decide +kernel
theorem dX9_wheel_1 : decode cX9_wheel 1 = .ok (.iload_n 1, 1) := by decide +kernel
theorem dX9_wheel_2 : decode cX9_wheel 2 = .ok (.invokevirtual 164, 3) := by decide +kernel
theorem dX9_wheel_5 : decode cX9_wheel 5 = .ok (.ifCond .ne 5, 3) := by decide +kernel
theorem dX9_wheel_8 : decode cX9_wheel 8 = .ok (.iconst (-1), 1) := by decide +kernel
theorem dX9_wheel_9 : decode cX9_wheel 9 = .ok (.ireturn, 1) := by decide +kernel
theorem dX9_wheel_10 : decode cX9_wheel 10 = .ok (.iload_n 2, 1) := by decide +kernel
theorem dX9_wheel_11 : decode cX9_wheel 11 = .ok (.tableswitch 154 0 7 #[45, 52, 59, 66, 73, 103, 118, 130], 45) := by decide +kernel
theorem dX9_wheel_56 : decode cX9_wheel 56 = .ok (.aload_n 0, 1) := by decide +kernel
theorem dX9_wheel_57 : decode cX9_wheel 57 = .ok (.getfield 29, 3) := by decide +kernel
theorem dX9_wheel_60 : decode cX9_wheel 60 = .ok (.iload_n 1, 1) := by decide +kernel
theorem dX9_wheel_61 : decode cX9_wheel 61 = .ok (.iaload, 1) := by decide +kernel
theorem dX9_wheel_62 : decode cX9_wheel 62 = .ok (.ireturn, 1) := by decide +kernel
theorem dX9_wheel_63 : decode cX9_wheel 63 = .ok (.aload_n 0, 1) := by decide +kernel
theorem dX9_wheel_64 : decode cX9_wheel 64 = .ok (.getfield 32, 3) := by decide +kernel
theorem dX9_wheel_67 : decode cX9_wheel 67 = .ok (.iload_n 1, 1) := by decide +kernel
theorem dX9_wheel_68 : decode cX9_wheel 68 = .ok (.iaload, 1) := by decide +kernel
theorem dX9_wheel_69 : decode cX9_wheel 69 = .ok (.ireturn, 1) := by decide +kernel
theorem dX9_wheel_70 : decode cX9_wheel 70 = .ok (.aload_n 0, 1) := by decide +kernel
theorem dX9_wheel_71 : decode cX9_wheel 71 = .ok (.getfield 57, 3) := by decide +kernel
theorem dX9_wheel_74 : decode cX9_wheel 74 = .ok (.iload_n 1, 1) := by decide +kernel
theorem dX9_wheel_75 : decode cX9_wheel 75 = .ok (.iaload, 1) := by decide +kernel
theorem dX9_wheel_76 : decode cX9_wheel 76 = .ok (.ireturn, 1) := by decide +kernel
theorem dX9_wheel_77 : decode cX9_wheel 77 = .ok (.aload_n 0, 1) := by decide +kernel
theorem dX9_wheel_78 : decode cX9_wheel 78 = .ok (.getfield 60, 3) := by decide +kernel
theorem dX9_wheel_81 : decode cX9_wheel 81 = .ok (.iload_n 1, 1) := by decide +kernel
theorem dX9_wheel_82 : decode cX9_wheel 82 = .ok (.iaload, 1) := by decide +kernel
theorem dX9_wheel_83 : decode cX9_wheel 83 = .ok (.ireturn, 1) := by decide +kernel
theorem dX9_wheel_84 : decode cX9_wheel 84 = .ok (.aload_n 0, 1) := by decide +kernel
theorem dX9_wheel_85 : decode cX9_wheel 85 = .ok (.getfield 60, 3) := by decide +kernel
theorem dX9_wheel_88 : decode cX9_wheel 88 = .ok (.iload_n 1, 1) := by decide +kernel
theorem dX9_wheel_89 : decode cX9_wheel 89 = .ok (.iaload, 1) := by decide +kernel
theorem dX9_wheel_90 : decode cX9_wheel 90 = .ok (.ifCond .le 22, 3) := by decide +kernel
theorem dX9_wheel_93 : decode cX9_wheel 93 = .ok (.aload_n 0, 1) := by decide +kernel
theorem dX9_wheel_94 : decode cX9_wheel 94 = .ok (.getfield 60, 3) := by decide +kernel
theorem dX9_wheel_97 : decode cX9_wheel 97 = .ok (.iload_n 1, 1) := by decide +kernel
theorem dX9_wheel_98 : decode cX9_wheel 98 = .ok (.iaload, 1) := by decide +kernel
theorem dX9_wheel_99 : decode cX9_wheel 99 = .ok (.aload_n 0, 1) := by decide +kernel
theorem dX9_wheel_100 : decode cX9_wheel 100 = .ok (.getfield 32, 3) := by decide +kernel
theorem dX9_wheel_103 : decode cX9_wheel 103 = .ok (.iload_n 1, 1) := by decide +kernel
theorem dX9_wheel_104 : decode cX9_wheel 104 = .ok (.iaload, 1) := by decide +kernel
theorem dX9_wheel_105 : decode cX9_wheel 105 = .ok (.if_icmp .ge 7, 3) := by decide +kernel
theorem dX9_wheel_108 : decode cX9_wheel 108 = .ok (.iconst 1, 1) := by decide +kernel
theorem dX9_wheel_109 : decode cX9_wheel 109 = .ok (.goto 4, 3) := by decide +kernel
theorem dX9_wheel_112 : decode cX9_wheel 112 = .ok (.iconst 0, 1) := by decide +kernel
theorem dX9_wheel_113 : decode cX9_wheel 113 = .ok (.ireturn, 1) := by decide +kernel
theorem dX9_wheel_114 : decode cX9_wheel 114 = .ok (.aload_n 0, 1) := by decide +kernel
theorem dX9_wheel_115 : decode cX9_wheel 115 = .ok (.getfield 63, 3) := by decide +kernel
theorem dX9_wheel_118 : decode cX9_wheel 118 = .ok (.iload_n 1, 1) := by decide +kernel
theorem dX9_wheel_119 : decode cX9_wheel 119 = .ok (.baload, 1) := by decide +kernel
theorem dX9_wheel_120 : decode cX9_wheel 120 = .ok (.ifCond .eq 7, 3) := by decide +kernel
theorem dX9_wheel_123 : decode cX9_wheel 123 = .ok (.iconst 1, 1) := by decide +kernel
theorem dX9_wheel_124 : decode cX9_wheel 124 = .ok (.goto 4, 3) := by decide +kernel
theorem dX9_wheel_127 : decode cX9_wheel 127 = .ok (.iconst 0, 1) := by decide +kernel
theorem dX9_wheel_128 : decode cX9_wheel 128 = .ok (.ireturn, 1) := by decide +kernel
theorem dX9_wheel_129 : decode cX9_wheel 129 = .ok (.aload_n 0, 1) := by decide +kernel
theorem dX9_wheel_130 : decode cX9_wheel 130 = .ok (.iload_n 1, 1) := by decide +kernel
theorem dX9_wheel_131 : decode cX9_wheel 131 = .ok (.aload_n 0, 1) := by decide +kernel
theorem dX9_wheel_132 : decode cX9_wheel 132 = .ok (.getfield 57, 3) := by decide +kernel
theorem dX9_wheel_135 : decode cX9_wheel 135 = .ok (.iload_n 1, 1) := by decide +kernel
theorem dX9_wheel_136 : decode cX9_wheel 136 = .ok (.iaload, 1) := by decide +kernel
theorem dX9_wheel_137 : decode cX9_wheel 137 = .ok (.invokevirtual 168, 3) := by decide +kernel
theorem dX9_wheel_140 : decode cX9_wheel 140 = .ok (.ireturn, 1) := by decide +kernel
theorem dX9_wheel_141 : decode cX9_wheel 141 = .ok (.aload_n 0, 1) := by decide +kernel
theorem dX9_wheel_142 : decode cX9_wheel 142 = .ok (.iload_n 1, 1) := by decide +kernel
theorem dX9_wheel_143 : decode cX9_wheel 143 = .ok (.aload_n 0, 1) := by decide +kernel
theorem dX9_wheel_144 : decode cX9_wheel 144 = .ok (.getfield 57, 3) := by decide +kernel
theorem dX9_wheel_147 : decode cX9_wheel 147 = .ok (.iload_n 1, 1) := by decide +kernel
theorem dX9_wheel_148 : decode cX9_wheel 148 = .ok (.iaload, 1) := by decide +kernel
theorem dX9_wheel_149 : decode cX9_wheel 149 = .ok (.aload_n 0, 1) := by decide +kernel
theorem dX9_wheel_150 : decode cX9_wheel 150 = .ok (.getfield 60, 3) := by decide +kernel
theorem dX9_wheel_153 : decode cX9_wheel 153 = .ok (.iload_n 1, 1) := by decide +kernel
theorem dX9_wheel_154 : decode cX9_wheel 154 = .ok (.iaload, 1) := by decide +kernel
theorem dX9_wheel_155 : decode cX9_wheel 155 = .ok (.aload_n 0, 1) := by decide +kernel
theorem dX9_wheel_156 : decode cX9_wheel 156 = .ok (.getfield 41, 3) := by decide +kernel
theorem dX9_wheel_159 : decode cX9_wheel 159 = .ok (.iconst 0, 1) := by decide +kernel
theorem dX9_wheel_160 : decode cX9_wheel 160 = .ok (.iaload, 1) := by decide +kernel
theorem dX9_wheel_161 : decode cX9_wheel 161 = .ok (.invokevirtual 171, 3) := by decide +kernel
theorem dX9_wheel_164 : decode cX9_wheel 164 = .ok (.ireturn, 1) := by decide +kernel
theorem dX9_wheel_165 : decode cX9_wheel 165 = .ok (.iconst (-1), 1) := by decide +kernel
theorem dX9_wheel_166 : decode cX9_wheel 166 = .ok (.ireturn, 1) := by decide +kernel
theorem dX9_week_0 : decode cX9_week 0 = .ok (.iload_n 1, 1) := by decide +kernel
theorem dX9_week_1 : decode cX9_week 1 = .ok (.iconst 0, 1) := by decide +kernel
theorem dX9_week_2 : decode cX9_week 2 = .ok (.bipush 7, 2) := by decide +kernel
theorem dX9_week_4 : decode cX9_week 4 = .ok (.invokestatic 103, 3) := by decide +kernel
theorem dX9_week_7 : decode cX9_week 7 = .ok (.ifCond .eq 34, 3) := by decide +kernel
theorem dX9_week_10 : decode cX9_week 10 = .ok (.iload_n 2, 1) := by decide +kernel
theorem dX9_week_11 : decode cX9_week 11 = .ok (.iconst 0, 1) := by decide +kernel
theorem dX9_week_12 : decode cX9_week 12 = .ok (.iconst 1, 1) := by decide +kernel
theorem dX9_week_13 : decode cX9_week 13 = .ok (.invokestatic 103, 3) := by decide +kernel
theorem dX9_week_16 : decode cX9_week 16 = .ok (.ifCond .eq 25, 3) := by decide +kernel
theorem dX9_week_19 : decode cX9_week 19 = .ok (.iload_n 2, 1) := by decide +kernel
theorem dX9_week_20 : decode cX9_week 20 = .ok (.ifCond .ne 12, 3) := by decide +kernel
theorem dX9_week_23 : decode cX9_week 23 = .ok (.aload_n 0, 1) := by decide +kernel
theorem dX9_week_24 : decode cX9_week 24 = .ok (.getfield 35, 3) := by decide +kernel
theorem dX9_week_27 : decode cX9_week 27 = .ok (.iload_n 1, 1) := by decide +kernel
theorem dX9_week_28 : decode cX9_week 28 = .ok (.iaload, 1) := by decide +kernel
theorem dX9_week_29 : decode cX9_week 29 = .ok (.goto 13, 3) := by decide +kernel
theorem dX9_week_32 : decode cX9_week 32 = .ok (.aload_n 0, 1) := by decide +kernel
theorem dX9_week_33 : decode cX9_week 33 = .ok (.getfield 38, 3) := by decide +kernel
theorem dX9_week_36 : decode cX9_week 36 = .ok (.iload_n 1, 1) := by decide +kernel
theorem dX9_week_37 : decode cX9_week 37 = .ok (.iaload, 1) := by decide +kernel
theorem dX9_week_38 : decode cX9_week 38 = .ok (.goto 4, 3) := by decide +kernel
theorem dX9_week_41 : decode cX9_week 41 = .ok (.iconst (-1), 1) := by decide +kernel
theorem dX9_week_42 : decode cX9_week 42 = .ok (.ireturn, 1) := by decide +kernel
theorem dX9_place_0 : decode cX9_place 0 = .ok (.aload_n 0, 1) := by decide +kernel
theorem dX9_place_1 : decode cX9_place 1 = .ok (.iload_n 1, 1) := by decide +kernel
theorem dX9_place_2 : decode cX9_place 2 = .ok (.invokevirtual 164, 3) := by decide +kernel
theorem dX9_place_5 : decode cX9_place 5 = .ok (.ifCond .eq 26, 3) := by decide +kernel
theorem dX9_place_8 : decode cX9_place 8 = .ok (.iload_n 2, 1) := by decide +kernel
theorem dX9_place_9 : decode cX9_place 9 = .ok (.iconst 0, 1) := by decide +kernel
theorem dX9_place_10 : decode cX9_place 10 = .ok (.iconst 3, 1) := by decide +kernel
theorem dX9_place_11 : decode cX9_place 11 = .ok (.invokestatic 103, 3) := by decide +kernel
theorem dX9_place_14 : decode cX9_place 14 = .ok (.ifCond .eq 17, 3) := by decide +kernel
theorem dX9_place_17 : decode cX9_place 17 = .ok (.iload_n 3, 1) := by decide +kernel
theorem dX9_place_18 : decode cX9_place 18 = .ok (.iconst 0, 1) := by decide +kernel
theorem dX9_place_19 : decode cX9_place 19 = .ok (.aload_n 0, 1) := by decide +kernel
theorem dX9_place_20 : decode cX9_place 20 = .ok (.getfield 32, 3) := by decide +kernel
theorem dX9_place_23 : decode cX9_place 23 = .ok (.iload_n 1, 1) := by decide +kernel
theorem dX9_place_24 : decode cX9_place 24 = .ok (.iaload, 1) := by decide +kernel
theorem dX9_place_25 : decode cX9_place 25 = .ok (.invokestatic 103, 3) := by decide +kernel
theorem dX9_place_28 : decode cX9_place 28 = .ok (.ifCond .ne 5, 3) := by decide +kernel
theorem dX9_place_31 : decode cX9_place 31 = .ok (.iconst (-1), 1) := by decide +kernel
theorem dX9_place_32 : decode cX9_place 32 = .ok (.ireturn, 1) := by decide +kernel
theorem dX9_place_33 : decode cX9_place 33 = .ok (.bipush 10, 2) := by decide +kernel
theorem dX9_place_35 : decode cX9_place 35 = .ok (.aload_n 0, 1) := by decide +kernel
theorem dX9_place_36 : decode cX9_place 36 = .ok (.getfield 57, 3) := by decide +kernel
theorem dX9_place_39 : decode cX9_place 39 = .ok (.iload_n 1, 1) := by decide +kernel
theorem dX9_place_40 : decode cX9_place 40 = .ok (.iaload, 1) := by decide +kernel
theorem dX9_place_41 : decode cX9_place 41 = .ok (.imul, 1) := by decide +kernel
theorem dX9_place_42 : decode cX9_place 42 = .ok (.aload_n 0, 1) := by decide +kernel
theorem dX9_place_43 : decode cX9_place 43 = .ok (.getfield 60, 3) := by decide +kernel
theorem dX9_place_46 : decode cX9_place 46 = .ok (.iload_n 1, 1) := by decide +kernel
theorem dX9_place_47 : decode cX9_place 47 = .ok (.iaload, 1) := by decide +kernel
theorem dX9_place_48 : decode cX9_place 48 = .ok (.iadd, 1) := by decide +kernel
theorem dX9_place_49 : decode cX9_place 49 = .ok (.istore 4, 2) := by decide +kernel
theorem dX9_place_51 : decode cX9_place 51 = .ok (.aload_n 0, 1) := by decide +kernel
theorem dX9_place_52 : decode cX9_place 52 = .ok (.getfield 57, 3) := by decide +kernel
theorem dX9_place_55 : decode cX9_place 55 = .ok (.iload_n 1, 1) := by decide +kernel
theorem dX9_place_56 : decode cX9_place 56 = .ok (.iload_n 2, 1) := by decide +kernel
theorem dX9_place_57 : decode cX9_place 57 = .ok (.iastore, 1) := by decide +kernel
theorem dX9_place_58 : decode cX9_place 58 = .ok (.aload_n 0, 1) := by decide +kernel
theorem dX9_place_59 : decode cX9_place 59 = .ok (.getfield 60, 3) := by decide +kernel
theorem dX9_place_62 : decode cX9_place 62 = .ok (.iload_n 1, 1) := by decide +kernel
theorem dX9_place_63 : decode cX9_place 63 = .ok (.iload_n 3, 1) := by decide +kernel
theorem dX9_place_64 : decode cX9_place 64 = .ok (.iastore, 1) := by decide +kernel
theorem dX9_place_65 : decode cX9_place 65 = .ok (.iload 4, 2) := by decide +kernel
theorem dX9_place_67 : decode cX9_place 67 = .ok (.ireturn, 1) := by decide +kernel
theorem dX9_stateNow_0 : decode cX9_stateNow 0 = .ok (.iconst 0, 1) := by decide +kernel
theorem dX9_stateNow_1 : decode cX9_stateNow 1 = .ok (.istore_n 1, 1) := by decide +kernel
theorem dX9_stateNow_2 : decode cX9_stateNow 2 = .ok (.aload_n 0, 1) := by decide +kernel
theorem dX9_stateNow_3 : decode cX9_stateNow 3 = .ok (.getfield 17, 3) := by decide +kernel
theorem dX9_stateNow_6 : decode cX9_stateNow 6 = .ok (.iconst 0, 1) := by decide +kernel
theorem dX9_stateNow_7 : decode cX9_stateNow 7 = .ok (.iaload, 1) := by decide +kernel
theorem dX9_stateNow_8 : decode cX9_stateNow 8 = .ok (.iconst 1, 1) := by decide +kernel
theorem dX9_stateNow_9 : decode cX9_stateNow 9 = .ok (.isub, 1) := by decide +kernel
theorem dX9_stateNow_10 : decode cX9_stateNow 10 = .ok (.istore_n 2, 1) := by decide +kernel
theorem dX9_stateNow_11 : decode cX9_stateNow 11 = .ok (.iload_n 2, 1) := by decide +kernel
theorem dX9_stateNow_12 : decode cX9_stateNow 12 = .ok (.ifCond .lt 30, 3) := by decide +kernel
theorem dX9_stateNow_15 : decode cX9_stateNow 15 = .ok (.bipush 16, 2) := by decide +kernel
theorem dX9_stateNow_17 : decode cX9_stateNow 17 = .ok (.iload_n 1, 1) := by decide +kernel
theorem dX9_stateNow_18 : decode cX9_stateNow 18 = .ok (.imul, 1) := by decide +kernel
theorem dX9_stateNow_19 : decode cX9_stateNow 19 = .ok (.iconst 4, 1) := by decide +kernel
theorem dX9_stateNow_20 : decode cX9_stateNow 20 = .ok (.aload_n 0, 1) := by decide +kernel
theorem dX9_stateNow_21 : decode cX9_stateNow 21 = .ok (.getfield 57, 3) := by decide +kernel
theorem dX9_stateNow_24 : decode cX9_stateNow 24 = .ok (.iload_n 2, 1) := by decide +kernel
theorem dX9_stateNow_25 : decode cX9_stateNow 25 = .ok (.iaload, 1) := by decide +kernel
theorem dX9_stateNow_26 : decode cX9_stateNow 26 = .ok (.imul, 1) := by decide +kernel
theorem dX9_stateNow_27 : decode cX9_stateNow 27 = .ok (.iadd, 1) := by decide +kernel
theorem dX9_stateNow_28 : decode cX9_stateNow 28 = .ok (.aload_n 0, 1) := by decide +kernel
theorem dX9_stateNow_29 : decode cX9_stateNow 29 = .ok (.getfield 60, 3) := by decide +kernel
theorem dX9_stateNow_32 : decode cX9_stateNow 32 = .ok (.iload_n 2, 1) := by decide +kernel
theorem dX9_stateNow_33 : decode cX9_stateNow 33 = .ok (.iaload, 1) := by decide +kernel
theorem dX9_stateNow_34 : decode cX9_stateNow 34 = .ok (.iadd, 1) := by decide +kernel
theorem dX9_stateNow_35 : decode cX9_stateNow 35 = .ok (.istore_n 1, 1) := by decide +kernel
theorem dX9_stateNow_36 : decode cX9_stateNow 36 = .ok (.iinc 2 (-1), 3) := by decide +kernel
theorem dX9_stateNow_39 : decode cX9_stateNow 39 = .ok (.goto (-28), 3) := by decide +kernel
theorem dX9_stateNow_42 : decode cX9_stateNow 42 = .ok (.iload_n 1, 1) := by decide +kernel
theorem dX9_stateNow_43 : decode cX9_stateNow 43 = .ok (.ireturn, 1) := by decide +kernel
theorem dX9_codeOf_0 : decode cX9_codeOf 0 = .ok (.iload_n 0, 1) := by decide +kernel
theorem dX9_codeOf_1 : decode cX9_codeOf 1 = .ok (.iconst 4, 1) := by decide +kernel
theorem dX9_codeOf_2 : decode cX9_codeOf 2 = .ok (.iload_n 1, 1) := by decide +kernel
theorem dX9_codeOf_3 : decode cX9_codeOf 3 = .ok (.imul, 1) := by decide +kernel
theorem dX9_codeOf_4 : decode cX9_codeOf 4 = .ok (.ishr, 1) := by decide +kernel
theorem dX9_codeOf_5 : decode cX9_codeOf 5 = .ok (.bipush 15, 2) := by decide +kernel
theorem dX9_codeOf_7 : decode cX9_codeOf 7 = .ok (.iand, 1) := by decide +kernel
theorem dX9_codeOf_8 : decode cX9_codeOf 8 = .ok (.ireturn, 1) := by decide +kernel
theorem dX9_isOpenIn_0 : decode cX9_isOpenIn 0 = .ok (.iload_n 1, 1) := by decide +kernel
theorem dX9_isOpenIn_1 : decode cX9_isOpenIn 1 = .ok (.iload_n 2, 1) := by decide +kernel
theorem dX9_isOpenIn_2 : decode cX9_isOpenIn 2 = .ok (.invokestatic 175, 3) := by decide +kernel
theorem dX9_isOpenIn_5 : decode cX9_isOpenIn 5 = .ok (.iconst 3, 1) := by decide +kernel
theorem dX9_isOpenIn_6 : decode cX9_isOpenIn 6 = .ok (.iand, 1) := by decide +kernel
theorem dX9_isOpenIn_7 : decode cX9_isOpenIn 7 = .ok (.istore_n 3, 1) := by decide +kernel
theorem dX9_isOpenIn_8 : decode cX9_isOpenIn 8 = .ok (.iload_n 3, 1) := by decide +kernel
theorem dX9_isOpenIn_9 : decode cX9_isOpenIn 9 = .ok (.ifCond .le 17, 3) := by decide +kernel
theorem dX9_isOpenIn_12 : decode cX9_isOpenIn 12 = .ok (.iload_n 3, 1) := by decide +kernel
theorem dX9_isOpenIn_13 : decode cX9_isOpenIn 13 = .ok (.aload_n 0, 1) := by decide +kernel
theorem dX9_isOpenIn_14 : decode cX9_isOpenIn 14 = .ok (.getfield 32, 3) := by decide +kernel
theorem dX9_isOpenIn_17 : decode cX9_isOpenIn 17 = .ok (.iload_n 2, 1) := by decide +kernel
theorem dX9_isOpenIn_18 : decode cX9_isOpenIn 18 = .ok (.iaload, 1) := by decide +kernel
theorem dX9_isOpenIn_19 : decode cX9_isOpenIn 19 = .ok (.if_icmp .ge 7, 3) := by decide +kernel
theorem dX9_isOpenIn_22 : decode cX9_isOpenIn 22 = .ok (.iconst 1, 1) := by decide +kernel
theorem dX9_isOpenIn_23 : decode cX9_isOpenIn 23 = .ok (.goto 4, 3) := by decide +kernel
theorem dX9_isOpenIn_26 : decode cX9_isOpenIn 26 = .ok (.iconst 0, 1) := by decide +kernel
theorem dX9_isOpenIn_27 : decode cX9_isOpenIn 27 = .ok (.ireturn, 1) := by decide +kernel
theorem dX9_mayEat_0 : decode cX9_mayEat 0 = .ok (.aload_n 0, 1) := by decide +kernel
theorem dX9_mayEat_1 : decode cX9_mayEat 1 = .ok (.iload_n 2, 1) := by decide +kernel
theorem dX9_mayEat_2 : decode cX9_mayEat 2 = .ok (.invokevirtual 164, 3) := by decide +kernel
theorem dX9_mayEat_5 : decode cX9_mayEat 5 = .ok (.ifCond .ne 5, 3) := by decide +kernel
theorem dX9_mayEat_8 : decode cX9_mayEat 8 = .ok (.iconst 0, 1) := by decide +kernel
theorem dX9_mayEat_9 : decode cX9_mayEat 9 = .ok (.ireturn, 1) := by decide +kernel
theorem dX9_mayEat_10 : decode cX9_mayEat 10 = .ok (.iload_n 1, 1) := by decide +kernel
theorem dX9_mayEat_11 : decode cX9_mayEat 11 = .ok (.iload_n 2, 1) := by decide +kernel
theorem dX9_mayEat_12 : decode cX9_mayEat 12 = .ok (.invokestatic 175, 3) := by decide +kernel
end
section
theorem dX9_mayEat_15 : decode cX9_mayEat 15 = .ok (.iconst 3, 1) := by decide +kernel
theorem dX9_mayEat_16 : decode cX9_mayEat 16 = .ok (.iand, 1) := by decide +kernel
theorem dX9_mayEat_17 : decode cX9_mayEat 17 = .ok (.istore_n 3, 1) := by decide +kernel
theorem dX9_mayEat_18 : decode cX9_mayEat 18 = .ok (.iconst 0, 1) := by decide +kernel
theorem dX9_mayEat_19 : decode cX9_mayEat 19 = .ok (.istore 4, 2) := by decide +kernel
theorem dX9_mayEat_21 : decode cX9_mayEat 21 = .ok (.iconst 0, 1) := by decide +kernel
theorem dX9_mayEat_22 : decode cX9_mayEat 22 = .ok (.istore 5, 2) := by decide +kernel
theorem dX9_mayEat_24 : decode cX9_mayEat 24 = .ok (.iload 5, 2) := by decide +kernel
theorem dX9_mayEat_26 : decode cX9_mayEat 26 = .ok (.aload_n 0, 1) := by decide +kernel
theorem dX9_mayEat_27 : decode cX9_mayEat 27 = .ok (.getfield 17, 3) := by decide +kernel
theorem dX9_mayEat_30 : decode cX9_mayEat 30 = .ok (.iconst 0, 1) := by decide +kernel
theorem dX9_mayEat_31 : decode cX9_mayEat 31 = .ok (.iaload, 1) := by decide +kernel
theorem dX9_mayEat_32 : decode cX9_mayEat 32 = .ok (.if_icmp .ge 35, 3) := by decide +kernel
theorem dX9_mayEat_35 : decode cX9_mayEat 35 = .ok (.iload 4, 2) := by decide +kernel
theorem dX9_mayEat_37 : decode cX9_mayEat 37 = .ok (.iload 5, 2) := by decide +kernel
theorem dX9_mayEat_39 : decode cX9_mayEat 39 = .ok (.iload_n 2, 1) := by decide +kernel
theorem dX9_mayEat_40 : decode cX9_mayEat 40 = .ok (.if_icmp .eq 17, 3) := by decide +kernel
theorem dX9_mayEat_43 : decode cX9_mayEat 43 = .ok (.aload_n 0, 1) := by decide +kernel
theorem dX9_mayEat_44 : decode cX9_mayEat 44 = .ok (.iload_n 1, 1) := by decide +kernel
theorem dX9_mayEat_45 : decode cX9_mayEat 45 = .ok (.iload 5, 2) := by decide +kernel
theorem dX9_mayEat_47 : decode cX9_mayEat 47 = .ok (.invokevirtual 178, 3) := by decide +kernel
theorem dX9_mayEat_50 : decode cX9_mayEat 50 = .ok (.ifCond .eq 7, 3) := by decide +kernel
theorem dX9_mayEat_53 : decode cX9_mayEat 53 = .ok (.iconst 1, 1) := by decide +kernel
theorem dX9_mayEat_54 : decode cX9_mayEat 54 = .ok (.goto 4, 3) := by decide +kernel
theorem dX9_mayEat_57 : decode cX9_mayEat 57 = .ok (.iconst 0, 1) := by decide +kernel
theorem dX9_mayEat_58 : decode cX9_mayEat 58 = .ok (.iadd, 1) := by decide +kernel
theorem dX9_mayEat_59 : decode cX9_mayEat 59 = .ok (.istore 4, 2) := by decide +kernel
theorem dX9_mayEat_61 : decode cX9_mayEat 61 = .ok (.iinc 5 1, 3) := by decide +kernel
theorem dX9_mayEat_64 : decode cX9_mayEat 64 = .ok (.goto (-40), 3) := by decide +kernel
theorem dX9_mayEat_67 : decode cX9_mayEat 67 = .ok (.iload_n 3, 1) := by decide +kernel
theorem dX9_mayEat_68 : decode cX9_mayEat 68 = .ok (.ifCond .le 28, 3) := by decide +kernel
theorem dX9_mayEat_71 : decode cX9_mayEat 71 = .ok (.iload_n 3, 1) := by decide +kernel
theorem dX9_mayEat_72 : decode cX9_mayEat 72 = .ok (.aload_n 0, 1) := by decide +kernel
theorem dX9_mayEat_73 : decode cX9_mayEat 73 = .ok (.getfield 32, 3) := by decide +kernel
theorem dX9_mayEat_76 : decode cX9_mayEat 76 = .ok (.iload_n 2, 1) := by decide +kernel
theorem dX9_mayEat_77 : decode cX9_mayEat 77 = .ok (.iaload, 1) := by decide +kernel
theorem dX9_mayEat_78 : decode cX9_mayEat 78 = .ok (.if_icmp .lt 14, 3) := by decide +kernel
theorem dX9_mayEat_81 : decode cX9_mayEat 81 = .ok (.iload 4, 2) := by decide +kernel
theorem dX9_mayEat_83 : decode cX9_mayEat 83 = .ok (.aload_n 0, 1) := by decide +kernel
theorem dX9_mayEat_84 : decode cX9_mayEat 84 = .ok (.getfield 23, 3) := by decide +kernel
theorem dX9_mayEat_87 : decode cX9_mayEat 87 = .ok (.iconst 0, 1) := by decide +kernel
theorem dX9_mayEat_88 : decode cX9_mayEat 88 = .ok (.iaload, 1) := by decide +kernel
theorem dX9_mayEat_89 : decode cX9_mayEat 89 = .ok (.if_icmp .ge 7, 3) := by decide +kernel
theorem dX9_mayEat_92 : decode cX9_mayEat 92 = .ok (.iconst 1, 1) := by decide +kernel
theorem dX9_mayEat_93 : decode cX9_mayEat 93 = .ok (.goto 4, 3) := by decide +kernel
theorem dX9_mayEat_96 : decode cX9_mayEat 96 = .ok (.iconst 0, 1) := by decide +kernel
theorem dX9_mayEat_97 : decode cX9_mayEat 97 = .ok (.ireturn, 1) := by decide +kernel
theorem dX9_maySell_0 : decode cX9_maySell 0 = .ok (.aload_n 0, 1) := by decide +kernel
theorem dX9_maySell_1 : decode cX9_maySell 1 = .ok (.iload_n 2, 1) := by decide +kernel
theorem dX9_maySell_2 : decode cX9_maySell 2 = .ok (.invokevirtual 164, 3) := by decide +kernel
theorem dX9_maySell_5 : decode cX9_maySell 5 = .ok (.ifCond .eq 11, 3) := by decide +kernel
theorem dX9_maySell_8 : decode cX9_maySell 8 = .ok (.iload_n 1, 1) := by decide +kernel
theorem dX9_maySell_9 : decode cX9_maySell 9 = .ok (.iload_n 2, 1) := by decide +kernel
theorem dX9_maySell_10 : decode cX9_maySell 10 = .ok (.invokestatic 175, 3) := by decide +kernel
theorem dX9_maySell_13 : decode cX9_maySell 13 = .ok (.goto 4, 3) := by decide +kernel
theorem dX9_maySell_16 : decode cX9_maySell 16 = .ok (.iconst 0, 1) := by decide +kernel
theorem dX9_maySell_17 : decode cX9_maySell 17 = .ok (.istore_n 3, 1) := by decide +kernel
theorem dX9_maySell_18 : decode cX9_maySell 18 = .ok (.aload_n 0, 1) := by decide +kernel
theorem dX9_maySell_19 : decode cX9_maySell 19 = .ok (.iload_n 2, 1) := by decide +kernel
theorem dX9_maySell_20 : decode cX9_maySell 20 = .ok (.invokevirtual 164, 3) := by decide +kernel
theorem dX9_maySell_23 : decode cX9_maySell 23 = .ok (.ifCond .eq 26, 3) := by decide +kernel
theorem dX9_maySell_26 : decode cX9_maySell 26 = .ok (.iload_n 3, 1) := by decide +kernel
theorem dX9_maySell_27 : decode cX9_maySell 27 = .ok (.iconst 3, 1) := by decide +kernel
theorem dX9_maySell_28 : decode cX9_maySell 28 = .ok (.iand, 1) := by decide +kernel
theorem dX9_maySell_29 : decode cX9_maySell 29 = .ok (.aload_n 0, 1) := by decide +kernel
theorem dX9_maySell_30 : decode cX9_maySell 30 = .ok (.getfield 32, 3) := by decide +kernel
theorem dX9_maySell_33 : decode cX9_maySell 33 = .ok (.iload_n 2, 1) := by decide +kernel
theorem dX9_maySell_34 : decode cX9_maySell 34 = .ok (.iaload, 1) := by decide +kernel
theorem dX9_maySell_35 : decode cX9_maySell 35 = .ok (.if_icmp .ne 14, 3) := by decide +kernel
theorem dX9_maySell_38 : decode cX9_maySell 38 = .ok (.iload_n 3, 1) := by decide +kernel
theorem dX9_maySell_39 : decode cX9_maySell 39 = .ok (.iconst 2, 1) := by decide +kernel
theorem dX9_maySell_40 : decode cX9_maySell 40 = .ok (.ishr, 1) := by decide +kernel
theorem dX9_maySell_41 : decode cX9_maySell 41 = .ok (.iconst 2, 1) := by decide +kernel
theorem dX9_maySell_42 : decode cX9_maySell 42 = .ok (.if_icmp .ge 7, 3) := by decide +kernel
theorem dX9_maySell_45 : decode cX9_maySell 45 = .ok (.iconst 1, 1) := by decide +kernel
theorem dX9_maySell_46 : decode cX9_maySell 46 = .ok (.goto 4, 3) := by decide +kernel
theorem dX9_maySell_49 : decode cX9_maySell 49 = .ok (.iconst 0, 1) := by decide +kernel
theorem dX9_maySell_50 : decode cX9_maySell 50 = .ok (.ireturn, 1) := by decide +kernel
theorem dX9_mayDo_0 : decode cX9_mayDo 0 = .ok (.iload_n 2, 1) := by decide +kernel
theorem dX9_mayDo_1 : decode cX9_mayDo 1 = .ok (.bipush 6, 2) := by decide +kernel
theorem dX9_mayDo_3 : decode cX9_mayDo 3 = .ok (.if_icmp .eq 31, 3) := by decide +kernel
theorem dX9_mayDo_6 : decode cX9_mayDo 6 = .ok (.iload_n 2, 1) := by decide +kernel
theorem dX9_mayDo_7 : decode cX9_mayDo 7 = .ok (.iconst 3, 1) := by decide +kernel
theorem dX9_mayDo_8 : decode cX9_mayDo 8 = .ok (.if_icmp .ge 15, 3) := by decide +kernel
theorem dX9_mayDo_11 : decode cX9_mayDo 11 = .ok (.aload_n 0, 1) := by decide +kernel
theorem dX9_mayDo_12 : decode cX9_mayDo 12 = .ok (.iload_n 1, 1) := by decide +kernel
theorem dX9_mayDo_13 : decode cX9_mayDo 13 = .ok (.iload_n 2, 1) := by decide +kernel
theorem dX9_mayDo_14 : decode cX9_mayDo 14 = .ok (.invokevirtual 182, 3) := by decide +kernel
theorem dX9_mayDo_17 : decode cX9_mayDo 17 = .ok (.ifCond .eq 21, 3) := by decide +kernel
theorem dX9_mayDo_20 : decode cX9_mayDo 20 = .ok (.goto 14, 3) := by decide +kernel
theorem dX9_mayDo_23 : decode cX9_mayDo 23 = .ok (.aload_n 0, 1) := by decide +kernel
theorem dX9_mayDo_24 : decode cX9_mayDo 24 = .ok (.iload_n 1, 1) := by decide +kernel
theorem dX9_mayDo_25 : decode cX9_mayDo 25 = .ok (.iload_n 2, 1) := by decide +kernel
theorem dX9_mayDo_26 : decode cX9_mayDo 26 = .ok (.iconst 3, 1) := by decide +kernel
theorem dX9_mayDo_27 : decode cX9_mayDo 27 = .ok (.isub, 1) := by decide +kernel
theorem dX9_mayDo_28 : decode cX9_mayDo 28 = .ok (.invokevirtual 185, 3) := by decide +kernel
theorem dX9_mayDo_31 : decode cX9_mayDo 31 = .ok (.ifCond .eq 7, 3) := by decide +kernel
theorem dX9_mayDo_34 : decode cX9_mayDo 34 = .ok (.iconst 1, 1) := by decide +kernel
theorem dX9_mayDo_35 : decode cX9_mayDo 35 = .ok (.goto 4, 3) := by decide +kernel
theorem dX9_mayDo_38 : decode cX9_mayDo 38 = .ok (.iconst 0, 1) := by decide +kernel
theorem dX9_mayDo_39 : decode cX9_mayDo 39 = .ok (.ireturn, 1) := by decide +kernel
theorem dX9_hadBy_0 : decode cX9_hadBy 0 = .ok (.iload_n 2, 1) := by decide +kernel
theorem dX9_hadBy_1 : decode cX9_hadBy 1 = .ok (.iconst 3, 1) := by decide +kernel
theorem dX9_hadBy_2 : decode cX9_hadBy 2 = .ok (.irem, 1) := by decide +kernel
theorem dX9_hadBy_3 : decode cX9_hadBy 3 = .ok (.istore 4, 2) := by decide +kernel
theorem dX9_hadBy_5 : decode cX9_hadBy 5 = .ok (.iload_n 2, 1) := by decide +kernel
theorem dX9_hadBy_6 : decode cX9_hadBy 6 = .ok (.bipush 6, 2) := by decide +kernel
theorem dX9_hadBy_8 : decode cX9_hadBy 8 = .ok (.if_icmp .ne 7, 3) := by decide +kernel
theorem dX9_hadBy_11 : decode cX9_hadBy 11 = .ok (.iconst 0, 1) := by decide +kernel
theorem dX9_hadBy_12 : decode cX9_hadBy 12 = .ok (.goto 39, 3) := by decide +kernel
theorem dX9_hadBy_15 : decode cX9_hadBy 15 = .ok (.iload_n 2, 1) := by decide +kernel
theorem dX9_hadBy_16 : decode cX9_hadBy 16 = .ok (.iconst 3, 1) := by decide +kernel
theorem dX9_hadBy_17 : decode cX9_hadBy 17 = .ok (.if_icmp .ge 20, 3) := by decide +kernel
theorem dX9_hadBy_20 : decode cX9_hadBy 20 = .ok (.aload_n 0, 1) := by decide +kernel
theorem dX9_hadBy_21 : decode cX9_hadBy 21 = .ok (.iload 4, 2) := by decide +kernel
theorem dX9_hadBy_23 : decode cX9_hadBy 23 = .ok (.iload_n 1, 1) := by decide +kernel
theorem dX9_hadBy_24 : decode cX9_hadBy 24 = .ok (.iload 4, 2) := by decide +kernel
theorem dX9_hadBy_26 : decode cX9_hadBy 26 = .ok (.invokestatic 175, 3) := by decide +kernel
theorem dX9_hadBy_29 : decode cX9_hadBy 29 = .ok (.iconst 2, 1) := by decide +kernel
theorem dX9_hadBy_30 : decode cX9_hadBy 30 = .ok (.ishr, 1) := by decide +kernel
theorem dX9_hadBy_31 : decode cX9_hadBy 31 = .ok (.invokevirtual 168, 3) := by decide +kernel
theorem dX9_hadBy_34 : decode cX9_hadBy 34 = .ok (.goto 17, 3) := by decide +kernel
theorem dX9_hadBy_37 : decode cX9_hadBy 37 = .ok (.aload_n 0, 1) := by decide +kernel
theorem dX9_hadBy_38 : decode cX9_hadBy 38 = .ok (.getfield 32, 3) := by decide +kernel
theorem dX9_hadBy_41 : decode cX9_hadBy 41 = .ok (.iload 4, 2) := by decide +kernel
theorem dX9_hadBy_43 : decode cX9_hadBy 43 = .ok (.iaload, 1) := by decide +kernel
theorem dX9_hadBy_44 : decode cX9_hadBy 44 = .ok (.aload_n 0, 1) := by decide +kernel
theorem dX9_hadBy_45 : decode cX9_hadBy 45 = .ok (.getfield 38, 3) := by decide +kernel
theorem dX9_hadBy_48 : decode cX9_hadBy 48 = .ok (.iload_n 3, 1) := by decide +kernel
theorem dX9_hadBy_49 : decode cX9_hadBy 49 = .ok (.iaload, 1) := by decide +kernel
theorem dX9_hadBy_50 : decode cX9_hadBy 50 = .ok (.imul, 1) := by decide +kernel
theorem dX9_hadBy_51 : decode cX9_hadBy 51 = .ok (.ireturn, 1) := by decide +kernel
theorem dX9_behind_0 : decode cX9_behind 0 = .ok (.iload_n 2, 1) := by decide +kernel
theorem dX9_behind_1 : decode cX9_behind 1 = .ok (.iconst 3, 1) := by decide +kernel
theorem dX9_behind_2 : decode cX9_behind 2 = .ok (.irem, 1) := by decide +kernel
theorem dX9_behind_3 : decode cX9_behind 3 = .ok (.istore_n 3, 1) := by decide +kernel
theorem dX9_behind_4 : decode cX9_behind 4 = .ok (.iload_n 2, 1) := by decide +kernel
theorem dX9_behind_5 : decode cX9_behind 5 = .ok (.bipush 6, 2) := by decide +kernel
theorem dX9_behind_7 : decode cX9_behind 7 = .ok (.if_icmp .ne 7, 3) := by decide +kernel
theorem dX9_behind_10 : decode cX9_behind 10 = .ok (.iload_n 1, 1) := by decide +kernel
theorem dX9_behind_11 : decode cX9_behind 11 = .ok (.goto 24, 3) := by decide +kernel
theorem dX9_behind_14 : decode cX9_behind 14 = .ok (.iload_n 1, 1) := by decide +kernel
theorem dX9_behind_15 : decode cX9_behind 15 = .ok (.iload_n 2, 1) := by decide +kernel
theorem dX9_behind_16 : decode cX9_behind 16 = .ok (.iconst 3, 1) := by decide +kernel
theorem dX9_behind_17 : decode cX9_behind 17 = .ok (.if_icmp .ge 7, 3) := by decide +kernel
theorem dX9_behind_20 : decode cX9_behind 20 = .ok (.iconst 1, 1) := by decide +kernel
theorem dX9_behind_21 : decode cX9_behind 21 = .ok (.goto 9, 3) := by decide +kernel
theorem dX9_behind_24 : decode cX9_behind 24 = .ok (.aload_n 0, 1) := by decide +kernel
theorem dX9_behind_25 : decode cX9_behind 25 = .ok (.getfield 32, 3) := by decide +kernel
theorem dX9_behind_28 : decode cX9_behind 28 = .ok (.iload_n 3, 1) := by decide +kernel
theorem dX9_behind_29 : decode cX9_behind 29 = .ok (.iaload, 1) := by decide +kernel
theorem dX9_behind_30 : decode cX9_behind 30 = .ok (.iconst 4, 1) := by decide +kernel
theorem dX9_behind_31 : decode cX9_behind 31 = .ok (.iload_n 3, 1) := by decide +kernel
theorem dX9_behind_32 : decode cX9_behind 32 = .ok (.imul, 1) := by decide +kernel
theorem dX9_behind_33 : decode cX9_behind 33 = .ok (.ishl, 1) := by decide +kernel
theorem dX9_behind_34 : decode cX9_behind 34 = .ok (.isub, 1) := by decide +kernel
theorem dX9_behind_35 : decode cX9_behind 35 = .ok (.ireturn, 1) := by decide +kernel
theorem dX9_eat_0 : decode cX9_eat 0 = .ok (.aload_n 0, 1) := by decide +kernel
theorem dX9_eat_1 : decode cX9_eat 1 = .ok (.iload_n 1, 1) := by decide +kernel
theorem dX9_eat_2 : decode cX9_eat 2 = .ok (.invokevirtual 164, 3) := by decide +kernel
theorem dX9_eat_5 : decode cX9_eat 5 = .ok (.ifCond .ne 5, 3) := by decide +kernel
theorem dX9_eat_8 : decode cX9_eat 8 = .ok (.iconst (-1), 1) := by decide +kernel
theorem dX9_eat_9 : decode cX9_eat 9 = .ok (.ireturn, 1) := by decide +kernel
theorem dX9_eat_10 : decode cX9_eat 10 = .ok (.aload_n 0, 1) := by decide +kernel
theorem dX9_eat_11 : decode cX9_eat 11 = .ok (.invokevirtual 188, 3) := by decide +kernel
theorem dX9_eat_14 : decode cX9_eat 14 = .ok (.ifCond .ne 24, 3) := by decide +kernel
theorem dX9_eat_17 : decode cX9_eat 17 = .ok (.aload_n 0, 1) := by decide +kernel
theorem dX9_eat_18 : decode cX9_eat 18 = .ok (.getfield 44, 3) := by decide +kernel
theorem dX9_eat_21 : decode cX9_eat 21 = .ok (.iconst 0, 1) := by decide +kernel
theorem dX9_eat_22 : decode cX9_eat 22 = .ok (.baload, 1) := by decide +kernel
theorem dX9_eat_23 : decode cX9_eat 23 = .ok (.ifCond .ne 15, 3) := by decide +kernel
theorem dX9_eat_26 : decode cX9_eat 26 = .ok (.aload_n 0, 1) := by decide +kernel
theorem dX9_eat_27 : decode cX9_eat 27 = .ok (.aload_n 0, 1) := by decide +kernel
theorem dX9_eat_28 : decode cX9_eat 28 = .ok (.invokevirtual 192, 3) := by decide +kernel
theorem dX9_eat_31 : decode cX9_eat 31 = .ok (.iload_n 1, 1) := by decide +kernel
theorem dX9_eat_32 : decode cX9_eat 32 = .ok (.invokevirtual 182, 3) := by decide +kernel
theorem dX9_eat_35 : decode cX9_eat 35 = .ok (.ifCond .ne 6, 3) := by decide +kernel
theorem dX9_eat_38 : decode cX9_eat 38 = .ok (.bipush (-2), 2) := by decide +kernel
theorem dX9_eat_40 : decode cX9_eat 40 = .ok (.ireturn, 1) := by decide +kernel
theorem dX9_eat_41 : decode cX9_eat 41 = .ok (.aload_n 0, 1) := by decide +kernel
theorem dX9_eat_42 : decode cX9_eat 42 = .ok (.getfield 44, 3) := by decide +kernel
theorem dX9_eat_45 : decode cX9_eat 45 = .ok (.iconst 0, 1) := by decide +kernel
theorem dX9_eat_46 : decode cX9_eat 46 = .ok (.iconst 1, 1) := by decide +kernel
theorem dX9_eat_47 : decode cX9_eat 47 = .ok (.bastore, 1) := by decide +kernel
theorem dX9_eat_48 : decode cX9_eat 48 = .ok (.aload_n 0, 1) := by decide +kernel
theorem dX9_eat_49 : decode cX9_eat 49 = .ok (.getfield 60, 3) := by decide +kernel
theorem dX9_eat_52 : decode cX9_eat 52 = .ok (.iload_n 1, 1) := by decide +kernel
theorem dX9_eat_53 : decode cX9_eat 53 = .ok (.dup2, 1) := by decide +kernel
theorem dX9_eat_54 : decode cX9_eat 54 = .ok (.iaload, 1) := by decide +kernel
theorem dX9_eat_55 : decode cX9_eat 55 = .ok (.iconst 1, 1) := by decide +kernel
theorem dX9_eat_56 : decode cX9_eat 56 = .ok (.isub, 1) := by decide +kernel
theorem dX9_eat_57 : decode cX9_eat 57 = .ok (.iastore, 1) := by decide +kernel
theorem dX9_eat_58 : decode cX9_eat 58 = .ok (.aload_n 0, 1) := by decide +kernel
theorem dX9_eat_59 : decode cX9_eat 59 = .ok (.getfield 48, 3) := by decide +kernel
theorem dX9_eat_62 : decode cX9_eat 62 = .ok (.iconst 0, 1) := by decide +kernel
theorem dX9_eat_63 : decode cX9_eat 63 = .ok (.dup2, 1) := by decide +kernel
theorem dX9_eat_64 : decode cX9_eat 64 = .ok (.iaload, 1) := by decide +kernel
theorem dX9_eat_65 : decode cX9_eat 65 = .ok (.aload_n 0, 1) := by decide +kernel
theorem dX9_eat_66 : decode cX9_eat 66 = .ok (.iload_n 1, 1) := by decide +kernel
theorem dX9_eat_67 : decode cX9_eat 67 = .ok (.aload_n 0, 1) := by decide +kernel
theorem dX9_eat_68 : decode cX9_eat 68 = .ok (.getfield 57, 3) := by decide +kernel
theorem dX9_eat_71 : decode cX9_eat 71 = .ok (.iload_n 1, 1) := by decide +kernel
theorem dX9_eat_72 : decode cX9_eat 72 = .ok (.iaload, 1) := by decide +kernel
theorem dX9_eat_73 : decode cX9_eat 73 = .ok (.invokevirtual 168, 3) := by decide +kernel
theorem dX9_eat_76 : decode cX9_eat 76 = .ok (.iadd, 1) := by decide +kernel
theorem dX9_eat_77 : decode cX9_eat 77 = .ok (.iastore, 1) := by decide +kernel
theorem dX9_eat_78 : decode cX9_eat 78 = .ok (.aload_n 0, 1) := by decide +kernel
theorem dX9_eat_79 : decode cX9_eat 79 = .ok (.iload_n 1, 1) := by decide +kernel
theorem dX9_eat_80 : decode cX9_eat 80 = .ok (.aload_n 0, 1) := by decide +kernel
theorem dX9_eat_81 : decode cX9_eat 81 = .ok (.getfield 57, 3) := by decide +kernel
theorem dX9_eat_84 : decode cX9_eat 84 = .ok (.iload_n 1, 1) := by decide +kernel
theorem dX9_eat_85 : decode cX9_eat 85 = .ok (.iaload, 1) := by decide +kernel
theorem dX9_eat_86 : decode cX9_eat 86 = .ok (.invokevirtual 168, 3) := by decide +kernel
theorem dX9_eat_89 : decode cX9_eat 89 = .ok (.ireturn, 1) := by decide +kernel
theorem dX9_sell_0 : decode cX9_sell 0 = .ok (.aload_n 0, 1) := by decide +kernel
theorem dX9_sell_1 : decode cX9_sell 1 = .ok (.iload_n 1, 1) := by decide +kernel
theorem dX9_sell_2 : decode cX9_sell 2 = .ok (.invokevirtual 164, 3) := by decide +kernel
theorem dX9_sell_5 : decode cX9_sell 5 = .ok (.ifCond .ne 5, 3) := by decide +kernel
theorem dX9_sell_8 : decode cX9_sell 8 = .ok (.iconst (-1), 1) := by decide +kernel
theorem dX9_sell_9 : decode cX9_sell 9 = .ok (.ireturn, 1) := by decide +kernel
theorem dX9_sell_10 : decode cX9_sell 10 = .ok (.aload_n 0, 1) := by decide +kernel
theorem dX9_sell_11 : decode cX9_sell 11 = .ok (.invokevirtual 188, 3) := by decide +kernel
theorem dX9_sell_14 : decode cX9_sell 14 = .ok (.ifCond .ne 24, 3) := by decide +kernel
theorem dX9_sell_17 : decode cX9_sell 17 = .ok (.aload_n 0, 1) := by decide +kernel
theorem dX9_sell_18 : decode cX9_sell 18 = .ok (.getfield 44, 3) := by decide +kernel
theorem dX9_sell_21 : decode cX9_sell 21 = .ok (.iconst 0, 1) := by decide +kernel
theorem dX9_sell_22 : decode cX9_sell 22 = .ok (.baload, 1) := by decide +kernel
theorem dX9_sell_23 : decode cX9_sell 23 = .ok (.ifCond .ne 15, 3) := by decide +kernel
theorem dX9_sell_26 : decode cX9_sell 26 = .ok (.aload_n 0, 1) := by decide +kernel
theorem dX9_sell_27 : decode cX9_sell 27 = .ok (.aload_n 0, 1) := by decide +kernel
theorem dX9_sell_28 : decode cX9_sell 28 = .ok (.invokevirtual 192, 3) := by decide +kernel
theorem dX9_sell_31 : decode cX9_sell 31 = .ok (.iload_n 1, 1) := by decide +kernel
theorem dX9_sell_32 : decode cX9_sell 32 = .ok (.invokevirtual 185, 3) := by decide +kernel
theorem dX9_sell_35 : decode cX9_sell 35 = .ok (.ifCond .ne 6, 3) := by decide +kernel
theorem dX9_sell_38 : decode cX9_sell 38 = .ok (.bipush (-2), 2) := by decide +kernel
theorem dX9_sell_40 : decode cX9_sell 40 = .ok (.ireturn, 1) := by decide +kernel
theorem dX9_sell_41 : decode cX9_sell 41 = .ok (.aload_n 0, 1) := by decide +kernel
theorem dX9_sell_42 : decode cX9_sell 42 = .ok (.getfield 44, 3) := by decide +kernel
theorem dX9_sell_45 : decode cX9_sell 45 = .ok (.iconst 0, 1) := by decide +kernel
theorem dX9_sell_46 : decode cX9_sell 46 = .ok (.iconst 1, 1) := by decide +kernel
theorem dX9_sell_47 : decode cX9_sell 47 = .ok (.bastore, 1) := by decide +kernel
theorem dX9_sell_48 : decode cX9_sell 48 = .ok (.aload_n 0, 1) := by decide +kernel
theorem dX9_sell_49 : decode cX9_sell 49 = .ok (.getfield 60, 3) := by decide +kernel
theorem dX9_sell_52 : decode cX9_sell 52 = .ok (.iload_n 1, 1) := by decide +kernel
theorem dX9_sell_53 : decode cX9_sell 53 = .ok (.iaload, 1) := by decide +kernel
theorem dX9_sell_54 : decode cX9_sell 54 = .ok (.aload_n 0, 1) := by decide +kernel
theorem dX9_sell_55 : decode cX9_sell 55 = .ok (.getfield 38, 3) := by decide +kernel
theorem dX9_sell_58 : decode cX9_sell 58 = .ok (.aload_n 0, 1) := by decide +kernel
theorem dX9_sell_59 : decode cX9_sell 59 = .ok (.getfield 41, 3) := by decide +kernel
theorem dX9_sell_62 : decode cX9_sell 62 = .ok (.iconst 0, 1) := by decide +kernel
theorem dX9_sell_63 : decode cX9_sell 63 = .ok (.iaload, 1) := by decide +kernel
theorem dX9_sell_64 : decode cX9_sell 64 = .ok (.iaload, 1) := by decide +kernel
theorem dX9_sell_65 : decode cX9_sell 65 = .ok (.imul, 1) := by decide +kernel
theorem dX9_sell_66 : decode cX9_sell 66 = .ok (.istore_n 2, 1) := by decide +kernel
theorem dX9_sell_67 : decode cX9_sell 67 = .ok (.aload_n 0, 1) := by decide +kernel
theorem dX9_sell_68 : decode cX9_sell 68 = .ok (.getfield 60, 3) := by decide +kernel
theorem dX9_sell_71 : decode cX9_sell 71 = .ok (.iload_n 1, 1) := by decide +kernel
theorem dX9_sell_72 : decode cX9_sell 72 = .ok (.iconst 0, 1) := by decide +kernel
theorem dX9_sell_73 : decode cX9_sell 73 = .ok (.iastore, 1) := by decide +kernel
theorem dX9_sell_74 : decode cX9_sell 74 = .ok (.aload_n 0, 1) := by decide +kernel
theorem dX9_sell_75 : decode cX9_sell 75 = .ok (.getfield 51, 3) := by decide +kernel
theorem dX9_sell_78 : decode cX9_sell 78 = .ok (.iconst 0, 1) := by decide +kernel
theorem dX9_sell_79 : decode cX9_sell 79 = .ok (.dup2, 1) := by decide +kernel
theorem dX9_sell_80 : decode cX9_sell 80 = .ok (.iaload, 1) := by decide +kernel
theorem dX9_sell_81 : decode cX9_sell 81 = .ok (.iload_n 2, 1) := by decide +kernel
theorem dX9_sell_82 : decode cX9_sell 82 = .ok (.iadd, 1) := by decide +kernel
theorem dX9_sell_83 : decode cX9_sell 83 = .ok (.iastore, 1) := by decide +kernel
theorem dX9_sell_84 : decode cX9_sell 84 = .ok (.iload_n 2, 1) := by decide +kernel
theorem dX9_sell_85 : decode cX9_sell 85 = .ok (.ireturn, 1) := by decide +kernel
theorem dX9_stop_0 : decode cX9_stop 0 = .ok (.aload_n 0, 1) := by decide +kernel
theorem dX9_stop_1 : decode cX9_stop 1 = .ok (.iload_n 1, 1) := by decide +kernel
theorem dX9_stop_2 : decode cX9_stop 2 = .ok (.invokevirtual 164, 3) := by decide +kernel
theorem dX9_stop_5 : decode cX9_stop 5 = .ok (.ifCond .ne 5, 3) := by decide +kernel
theorem dX9_stop_8 : decode cX9_stop 8 = .ok (.iconst (-1), 1) := by decide +kernel
theorem dX9_stop_9 : decode cX9_stop 9 = .ok (.ireturn, 1) := by decide +kernel
theorem dX9_stop_10 : decode cX9_stop 10 = .ok (.aload_n 0, 1) := by decide +kernel
theorem dX9_stop_11 : decode cX9_stop 11 = .ok (.getfield 63, 3) := by decide +kernel
theorem dX9_stop_14 : decode cX9_stop 14 = .ok (.iload_n 1, 1) := by decide +kernel
theorem dX9_stop_15 : decode cX9_stop 15 = .ok (.baload, 1) := by decide +kernel
theorem dX9_stop_16 : decode cX9_stop 16 = .ok (.ifCond .eq 7, 3) := by decide +kernel
theorem dX9_stop_19 : decode cX9_stop 19 = .ok (.iconst 0, 1) := by decide +kernel
theorem dX9_stop_20 : decode cX9_stop 20 = .ok (.goto 4, 3) := by decide +kernel
theorem dX9_stop_23 : decode cX9_stop 23 = .ok (.iconst 1, 1) := by decide +kernel
theorem dX9_stop_24 : decode cX9_stop 24 = .ok (.istore_n 2, 1) := by decide +kernel
theorem dX9_stop_25 : decode cX9_stop 25 = .ok (.aload_n 0, 1) := by decide +kernel
theorem dX9_stop_26 : decode cX9_stop 26 = .ok (.getfield 63, 3) := by decide +kernel
theorem dX9_stop_29 : decode cX9_stop 29 = .ok (.iload_n 1, 1) := by decide +kernel
theorem dX9_stop_30 : decode cX9_stop 30 = .ok (.iconst 1, 1) := by decide +kernel
theorem dX9_stop_31 : decode cX9_stop 31 = .ok (.bastore, 1) := by decide +kernel
theorem dX9_stop_32 : decode cX9_stop 32 = .ok (.iload_n 2, 1) := by decide +kernel
theorem dX9_stop_33 : decode cX9_stop 33 = .ok (.ireturn, 1) := by decide +kernel
theorem dX9_goNext_0 : decode cX9_goNext 0 = .ok (.iconst 0, 1) := by decide +kernel
theorem dX9_goNext_1 : decode cX9_goNext 1 = .ok (.istore_n 1, 1) := by decide +kernel
theorem dX9_goNext_2 : decode cX9_goNext 2 = .ok (.iconst 0, 1) := by decide +kernel
theorem dX9_goNext_3 : decode cX9_goNext 3 = .ok (.istore_n 2, 1) := by decide +kernel
theorem dX9_goNext_4 : decode cX9_goNext 4 = .ok (.iload_n 2, 1) := by decide +kernel
theorem dX9_goNext_5 : decode cX9_goNext 5 = .ok (.aload_n 0, 1) := by decide +kernel
theorem dX9_goNext_6 : decode cX9_goNext 6 = .ok (.getfield 17, 3) := by decide +kernel
theorem dX9_goNext_9 : decode cX9_goNext 9 = .ok (.iconst 0, 1) := by decide +kernel
theorem dX9_goNext_10 : decode cX9_goNext 10 = .ok (.iaload, 1) := by decide +kernel
theorem dX9_goNext_11 : decode cX9_goNext 11 = .ok (.if_icmp .ge 107, 3) := by decide +kernel
theorem dX9_goNext_14 : decode cX9_goNext 14 = .ok (.aload_n 0, 1) := by decide +kernel
theorem dX9_goNext_15 : decode cX9_goNext 15 = .ok (.getfield 60, 3) := by decide +kernel
theorem dX9_goNext_18 : decode cX9_goNext 18 = .ok (.iload_n 2, 1) := by decide +kernel
theorem dX9_goNext_19 : decode cX9_goNext 19 = .ok (.iaload, 1) := by decide +kernel
theorem dX9_goNext_20 : decode cX9_goNext 20 = .ok (.ifCond .le 92, 3) := by decide +kernel
theorem dX9_goNext_23 : decode cX9_goNext 23 = .ok (.aload_n 0, 1) := by decide +kernel
theorem dX9_goNext_24 : decode cX9_goNext 24 = .ok (.getfield 63, 3) := by decide +kernel
theorem dX9_goNext_27 : decode cX9_goNext 27 = .ok (.iload_n 2, 1) := by decide +kernel
theorem dX9_goNext_28 : decode cX9_goNext 28 = .ok (.baload, 1) := by decide +kernel
theorem dX9_goNext_29 : decode cX9_goNext 29 = .ok (.ifCond .ne 83, 3) := by decide +kernel
theorem dX9_goNext_32 : decode cX9_goNext 32 = .ok (.aload_n 0, 1) := by decide +kernel
theorem dX9_goNext_33 : decode cX9_goNext 33 = .ok (.getfield 57, 3) := by decide +kernel
theorem dX9_goNext_36 : decode cX9_goNext 36 = .ok (.iload_n 2, 1) := by decide +kernel
theorem dX9_goNext_37 : decode cX9_goNext 37 = .ok (.iaload, 1) := by decide +kernel
theorem dX9_goNext_38 : decode cX9_goNext 38 = .ok (.iconst 3, 1) := by decide +kernel
theorem dX9_goNext_39 : decode cX9_goNext 39 = .ok (.if_icmp .ge 73, 3) := by decide +kernel
theorem dX9_goNext_42 : decode cX9_goNext 42 = .ok (.aload_n 0, 1) := by decide +kernel
theorem dX9_goNext_43 : decode cX9_goNext 43 = .ok (.getfield 54, 3) := by decide +kernel
theorem dX9_goNext_46 : decode cX9_goNext 46 = .ok (.iconst 0, 1) := by decide +kernel
theorem dX9_goNext_47 : decode cX9_goNext 47 = .ok (.aload_n 0, 1) := by decide +kernel
theorem dX9_goNext_48 : decode cX9_goNext 48 = .ok (.getfield 54, 3) := by decide +kernel
theorem dX9_goNext_51 : decode cX9_goNext 51 = .ok (.iconst 0, 1) := by decide +kernel
theorem dX9_goNext_52 : decode cX9_goNext 52 = .ok (.iaload, 1) := by decide +kernel
theorem dX9_goNext_53 : decode cX9_goNext 53 = .ok (.ldc 195, 2) := by decide +kernel
theorem dX9_goNext_55 : decode cX9_goNext 55 = .ok (.imul, 1) := by decide +kernel
theorem dX9_goNext_56 : decode cX9_goNext 56 = .ok (.sipush 12345, 3) := by decide +kernel
theorem dX9_goNext_59 : decode cX9_goNext 59 = .ok (.iadd, 1) := by decide +kernel
theorem dX9_goNext_60 : decode cX9_goNext 60 = .ok (.iastore, 1) := by decide +kernel
theorem dX9_goNext_61 : decode cX9_goNext 61 = .ok (.aload_n 0, 1) := by decide +kernel
theorem dX9_goNext_62 : decode cX9_goNext 62 = .ok (.getfield 54, 3) := by decide +kernel
theorem dX9_goNext_65 : decode cX9_goNext 65 = .ok (.iconst 0, 1) := by decide +kernel
theorem dX9_goNext_66 : decode cX9_goNext 66 = .ok (.iaload, 1) := by decide +kernel
theorem dX9_goNext_67 : decode cX9_goNext 67 = .ok (.bipush 16, 2) := by decide +kernel
theorem dX9_goNext_69 : decode cX9_goNext 69 = .ok (.iushr, 1) := by decide +kernel
theorem dX9_goNext_70 : decode cX9_goNext 70 = .ok (.bipush 10, 2) := by decide +kernel
theorem dX9_goNext_72 : decode cX9_goNext 72 = .ok (.irem, 1) := by decide +kernel
theorem dX9_goNext_73 : decode cX9_goNext 73 = .ok (.aload_n 0, 1) := by decide +kernel
theorem dX9_goNext_74 : decode cX9_goNext 74 = .ok (.iload_n 2, 1) := by decide +kernel
theorem dX9_goNext_75 : decode cX9_goNext 75 = .ok (.aload_n 0, 1) := by decide +kernel
theorem dX9_goNext_76 : decode cX9_goNext 76 = .ok (.getfield 57, 3) := by decide +kernel
theorem dX9_goNext_79 : decode cX9_goNext 79 = .ok (.iload_n 2, 1) := by decide +kernel
theorem dX9_goNext_80 : decode cX9_goNext 80 = .ok (.iaload, 1) := by decide +kernel
theorem dX9_goNext_81 : decode cX9_goNext 81 = .ok (.aload_n 0, 1) := by decide +kernel
theorem dX9_goNext_82 : decode cX9_goNext 82 = .ok (.getfield 60, 3) := by decide +kernel
theorem dX9_goNext_85 : decode cX9_goNext 85 = .ok (.iload_n 2, 1) := by decide +kernel
theorem dX9_goNext_86 : decode cX9_goNext 86 = .ok (.iaload, 1) := by decide +kernel
theorem dX9_goNext_87 : decode cX9_goNext 87 = .ok (.aload_n 0, 1) := by decide +kernel
theorem dX9_goNext_88 : decode cX9_goNext 88 = .ok (.getfield 41, 3) := by decide +kernel
theorem dX9_goNext_91 : decode cX9_goNext 91 = .ok (.iconst 0, 1) := by decide +kernel
theorem dX9_goNext_92 : decode cX9_goNext 92 = .ok (.iaload, 1) := by decide +kernel
theorem dX9_goNext_93 : decode cX9_goNext 93 = .ok (.invokevirtual 171, 3) := by decide +kernel
theorem dX9_goNext_96 : decode cX9_goNext 96 = .ok (.if_icmp .ge 16, 3) := by decide +kernel
theorem dX9_goNext_99 : decode cX9_goNext 99 = .ok (.aload_n 0, 1) := by decide +kernel
theorem dX9_goNext_100 : decode cX9_goNext 100 = .ok (.getfield 57, 3) := by decide +kernel
theorem dX9_goNext_103 : decode cX9_goNext 103 = .ok (.iload_n 2, 1) := by decide +kernel
theorem dX9_goNext_104 : decode cX9_goNext 104 = .ok (.dup2, 1) := by decide +kernel
theorem dX9_goNext_105 : decode cX9_goNext 105 = .ok (.iaload, 1) := by decide +kernel
theorem dX9_goNext_106 : decode cX9_goNext 106 = .ok (.iconst 1, 1) := by decide +kernel
theorem dX9_goNext_107 : decode cX9_goNext 107 = .ok (.iadd, 1) := by decide +kernel
theorem dX9_goNext_108 : decode cX9_goNext 108 = .ok (.iastore, 1) := by decide +kernel
theorem dX9_goNext_109 : decode cX9_goNext 109 = .ok (.iinc 1 1, 3) := by decide +kernel
theorem dX9_goNext_112 : decode cX9_goNext 112 = .ok (.iinc 2 1, 3) := by decide +kernel
theorem dX9_goNext_115 : decode cX9_goNext 115 = .ok (.goto (-111), 3) := by decide +kernel
theorem dX9_goNext_118 : decode cX9_goNext 118 = .ok (.aload_n 0, 1) := by decide +kernel
theorem dX9_goNext_119 : decode cX9_goNext 119 = .ok (.getfield 41, 3) := by decide +kernel
theorem dX9_goNext_122 : decode cX9_goNext 122 = .ok (.iconst 0, 1) := by decide +kernel
theorem dX9_goNext_123 : decode cX9_goNext 123 = .ok (.dup2, 1) := by decide +kernel
theorem dX9_goNext_124 : decode cX9_goNext 124 = .ok (.iaload, 1) := by decide +kernel
theorem dX9_goNext_125 : decode cX9_goNext 125 = .ok (.iconst 1, 1) := by decide +kernel
theorem dX9_goNext_126 : decode cX9_goNext 126 = .ok (.iadd, 1) := by decide +kernel
theorem dX9_goNext_127 : decode cX9_goNext 127 = .ok (.iastore, 1) := by decide +kernel
theorem dX9_goNext_128 : decode cX9_goNext 128 = .ok (.aload_n 0, 1) := by decide +kernel
theorem dX9_goNext_129 : decode cX9_goNext 129 = .ok (.getfield 44, 3) := by decide +kernel
theorem dX9_goNext_132 : decode cX9_goNext 132 = .ok (.iconst 0, 1) := by decide +kernel
theorem dX9_goNext_133 : decode cX9_goNext 133 = .ok (.iconst 0, 1) := by decide +kernel
theorem dX9_goNext_134 : decode cX9_goNext 134 = .ok (.bastore, 1) := by decide +kernel
theorem dX9_goNext_135 : decode cX9_goNext 135 = .ok (.iload_n 1, 1) := by decide +kernel
theorem dX9_goNext_136 : decode cX9_goNext 136 = .ok (.ireturn, 1) := by decide +kernel
theorem dX9_next_0 : decode cX9_next 0 = .ok (.aload_n 0, 1) := by decide +kernel
theorem dX9_next_1 : decode cX9_next 1 = .ok (.invokevirtual 188, 3) := by decide +kernel
theorem dX9_next_4 : decode cX9_next 4 = .ok (.ifCond .eq 8, 3) := by decide +kernel
theorem dX9_next_7 : decode cX9_next 7 = .ok (.bipush (-2), 2) := by decide +kernel
theorem dX9_next_9 : decode cX9_next 9 = .ok (.goto 7, 3) := by decide +kernel
theorem dX9_next_12 : decode cX9_next 12 = .ok (.aload_n 0, 1) := by decide +kernel
theorem dX9_next_13 : decode cX9_next 13 = .ok (.invokevirtual 196, 3) := by decide +kernel
theorem dX9_next_16 : decode cX9_next 16 = .ok (.ireturn, 1) := by decide +kernel
theorem dX9_now_0 : decode cX9_now 0 = .ok (.iconst 0, 1) := by decide +kernel
theorem dX9_now_1 : decode cX9_now 1 = .ok (.istore_n 2, 1) := by decide +kernel
theorem dX9_now_2 : decode cX9_now 2 = .ok (.iconst 0, 1) := by decide +kernel
theorem dX9_now_3 : decode cX9_now 3 = .ok (.istore_n 3, 1) := by decide +kernel
theorem dX9_now_4 : decode cX9_now 4 = .ok (.iconst 0, 1) := by decide +kernel
theorem dX9_now_5 : decode cX9_now 5 = .ok (.istore 4, 2) := by decide +kernel
theorem dX9_now_7 : decode cX9_now 7 = .ok (.iload 4, 2) := by decide +kernel
theorem dX9_now_9 : decode cX9_now 9 = .ok (.aload_n 0, 1) := by decide +kernel
theorem dX9_now_10 : decode cX9_now 10 = .ok (.getfield 17, 3) := by decide +kernel
theorem dX9_now_13 : decode cX9_now 13 = .ok (.iconst 0, 1) := by decide +kernel
theorem dX9_now_14 : decode cX9_now 14 = .ok (.iaload, 1) := by decide +kernel
theorem dX9_now_15 : decode cX9_now 15 = .ok (.if_icmp .ge 54, 3) := by decide +kernel
theorem dX9_now_18 : decode cX9_now 18 = .ok (.iload_n 2, 1) := by decide +kernel
theorem dX9_now_19 : decode cX9_now 19 = .ok (.aload_n 0, 1) := by decide +kernel
theorem dX9_now_20 : decode cX9_now 20 = .ok (.getfield 60, 3) := by decide +kernel
theorem dX9_now_23 : decode cX9_now 23 = .ok (.iload 4, 2) := by decide +kernel
theorem dX9_now_25 : decode cX9_now 25 = .ok (.iaload, 1) := by decide +kernel
theorem dX9_now_26 : decode cX9_now 26 = .ok (.iadd, 1) := by decide +kernel
theorem dX9_now_27 : decode cX9_now 27 = .ok (.istore_n 2, 1) := by decide +kernel
theorem dX9_now_28 : decode cX9_now 28 = .ok (.iload_n 3, 1) := by decide +kernel
theorem dX9_now_29 : decode cX9_now 29 = .ok (.aload_n 0, 1) := by decide +kernel
theorem dX9_now_30 : decode cX9_now 30 = .ok (.getfield 60, 3) := by decide +kernel
theorem dX9_now_33 : decode cX9_now 33 = .ok (.iload 4, 2) := by decide +kernel
theorem dX9_now_35 : decode cX9_now 35 = .ok (.iaload, 1) := by decide +kernel
theorem dX9_now_36 : decode cX9_now 36 = .ok (.ifCond .le 24, 3) := by decide +kernel
theorem dX9_now_39 : decode cX9_now 39 = .ok (.aload_n 0, 1) := by decide +kernel
theorem dX9_now_40 : decode cX9_now 40 = .ok (.getfield 60, 3) := by decide +kernel
theorem dX9_now_43 : decode cX9_now 43 = .ok (.iload 4, 2) := by decide +kernel
theorem dX9_now_45 : decode cX9_now 45 = .ok (.iaload, 1) := by decide +kernel
theorem dX9_now_46 : decode cX9_now 46 = .ok (.aload_n 0, 1) := by decide +kernel
theorem dX9_now_47 : decode cX9_now 47 = .ok (.getfield 32, 3) := by decide +kernel
theorem dX9_now_50 : decode cX9_now 50 = .ok (.iload 4, 2) := by decide +kernel
theorem dX9_now_52 : decode cX9_now 52 = .ok (.iaload, 1) := by decide +kernel
theorem dX9_now_53 : decode cX9_now 53 = .ok (.if_icmp .ge 7, 3) := by decide +kernel
theorem dX9_now_56 : decode cX9_now 56 = .ok (.iconst 1, 1) := by decide +kernel
theorem dX9_now_57 : decode cX9_now 57 = .ok (.goto 4, 3) := by decide +kernel
theorem dX9_now_60 : decode cX9_now 60 = .ok (.iconst 0, 1) := by decide +kernel
theorem dX9_now_61 : decode cX9_now 61 = .ok (.iadd, 1) := by decide +kernel
theorem dX9_now_62 : decode cX9_now 62 = .ok (.istore_n 3, 1) := by decide +kernel
theorem dX9_now_63 : decode cX9_now 63 = .ok (.iinc 4 1, 3) := by decide +kernel
theorem dX9_now_66 : decode cX9_now 66 = .ok (.goto (-59), 3) := by decide +kernel
theorem dX9_now_69 : decode cX9_now 69 = .ok (.iload_n 1, 1) := by decide +kernel
theorem dX9_now_70 : decode cX9_now 70 = .ok (.tableswitch 95 0 6 #[42, 49, 64, 71, 78, 80, 93], 42) := by decide +kernel
theorem dX9_now_112 : decode cX9_now 112 = .ok (.aload_n 0, 1) := by decide +kernel
theorem dX9_now_113 : decode cX9_now 113 = .ok (.getfield 41, 3) := by decide +kernel
theorem dX9_now_116 : decode cX9_now 116 = .ok (.iconst 0, 1) := by decide +kernel
theorem dX9_now_117 : decode cX9_now 117 = .ok (.iaload, 1) := by decide +kernel
theorem dX9_now_118 : decode cX9_now 118 = .ok (.ireturn, 1) := by decide +kernel
theorem dX9_now_119 : decode cX9_now 119 = .ok (.aload_n 0, 1) := by decide +kernel
theorem dX9_now_120 : decode cX9_now 120 = .ok (.getfield 44, 3) := by decide +kernel
theorem dX9_now_123 : decode cX9_now 123 = .ok (.iconst 0, 1) := by decide +kernel
theorem dX9_now_124 : decode cX9_now 124 = .ok (.baload, 1) := by decide +kernel
theorem dX9_now_125 : decode cX9_now 125 = .ok (.ifCond .eq 7, 3) := by decide +kernel
theorem dX9_now_128 : decode cX9_now 128 = .ok (.iconst 1, 1) := by decide +kernel
theorem dX9_now_129 : decode cX9_now 129 = .ok (.goto 4, 3) := by decide +kernel
theorem dX9_now_132 : decode cX9_now 132 = .ok (.iconst 0, 1) := by decide +kernel
theorem dX9_now_133 : decode cX9_now 133 = .ok (.ireturn, 1) := by decide +kernel
theorem dX9_now_134 : decode cX9_now 134 = .ok (.aload_n 0, 1) := by decide +kernel
theorem dX9_now_135 : decode cX9_now 135 = .ok (.getfield 48, 3) := by decide +kernel
theorem dX9_now_138 : decode cX9_now 138 = .ok (.iconst 0, 1) := by decide +kernel
theorem dX9_now_139 : decode cX9_now 139 = .ok (.iaload, 1) := by decide +kernel
theorem dX9_now_140 : decode cX9_now 140 = .ok (.ireturn, 1) := by decide +kernel
theorem dX9_now_141 : decode cX9_now 141 = .ok (.aload_n 0, 1) := by decide +kernel
theorem dX9_now_142 : decode cX9_now 142 = .ok (.getfield 51, 3) := by decide +kernel
theorem dX9_now_145 : decode cX9_now 145 = .ok (.iconst 0, 1) := by decide +kernel
theorem dX9_now_146 : decode cX9_now 146 = .ok (.iaload, 1) := by decide +kernel
theorem dX9_now_147 : decode cX9_now 147 = .ok (.ireturn, 1) := by decide +kernel
theorem dX9_now_148 : decode cX9_now 148 = .ok (.iload_n 2, 1) := by decide +kernel
theorem dX9_now_149 : decode cX9_now 149 = .ok (.ireturn, 1) := by decide +kernel
theorem dX9_now_150 : decode cX9_now 150 = .ok (.aload_n 0, 1) := by decide +kernel
theorem dX9_now_151 : decode cX9_now 151 = .ok (.invokevirtual 188, 3) := by decide +kernel
theorem dX9_now_154 : decode cX9_now 154 = .ok (.ifCond .eq 7, 3) := by decide +kernel
theorem dX9_now_157 : decode cX9_now 157 = .ok (.iconst 1, 1) := by decide +kernel
theorem dX9_now_158 : decode cX9_now 158 = .ok (.goto 4, 3) := by decide +kernel
theorem dX9_now_161 : decode cX9_now 161 = .ok (.iconst 0, 1) := by decide +kernel
theorem dX9_now_162 : decode cX9_now 162 = .ok (.ireturn, 1) := by decide +kernel
theorem dX9_now_163 : decode cX9_now 163 = .ok (.iload_n 3, 1) := by decide +kernel
theorem dX9_now_164 : decode cX9_now 164 = .ok (.ireturn, 1) := by decide +kernel
theorem dX9_now_165 : decode cX9_now 165 = .ok (.iconst (-1), 1) := by decide +kernel
theorem dX9_now_166 : decode cX9_now 166 = .ok (.ireturn, 1) := by decide +kernel
theorem dX9_lot_0 : decode cX9_lot 0 = .ok (.aload_n 0, 1) := by decide +kernel
theorem dX9_lot_1 : decode cX9_lot 1 = .ok (.getfield 54, 3) := by decide +kernel
theorem dX9_lot_4 : decode cX9_lot 4 = .ok (.iconst 0, 1) := by decide +kernel
theorem dX9_lot_5 : decode cX9_lot 5 = .ok (.iaload, 1) := by decide +kernel
theorem dX9_lot_6 : decode cX9_lot 6 = .ok (.istore_n 2, 1) := by decide +kernel
theorem dX9_lot_7 : decode cX9_lot 7 = .ok (.aload_n 0, 1) := by decide +kernel
theorem dX9_lot_8 : decode cX9_lot 8 = .ok (.getfield 54, 3) := by decide +kernel
theorem dX9_lot_11 : decode cX9_lot 11 = .ok (.iconst 0, 1) := by decide +kernel
theorem dX9_lot_12 : decode cX9_lot 12 = .ok (.iload_n 1, 1) := by decide +kernel
theorem dX9_lot_13 : decode cX9_lot 13 = .ok (.iastore, 1) := by decide +kernel
theorem dX9_lot_14 : decode cX9_lot 14 = .ok (.iload_n 2, 1) := by decide +kernel
theorem dX9_lot_15 : decode cX9_lot 15 = .ok (.ireturn, 1) := by decide +kernel
theorem dX9_meanOf_0 : decode cX9_meanOf 0 = .ok (.aload_n 0, 1) := by decide +kernel
theorem dX9_meanOf_1 : decode cX9_meanOf 1 = .ok (.iload_n 1, 1) := by decide +kernel
theorem dX9_meanOf_2 : decode cX9_meanOf 2 = .ok (.iconst 0, 1) := by decide +kernel
theorem dX9_meanOf_3 : decode cX9_meanOf 3 = .ok (.iload_n 2, 1) := by decide +kernel
theorem dX9_meanOf_4 : decode cX9_meanOf 4 = .ok (.invokevirtual 199, 3) := by decide +kernel
theorem dX9_meanOf_7 : decode cX9_meanOf 7 = .ok (.istore 4, 2) := by decide +kernel
theorem dX9_meanOf_9 : decode cX9_meanOf 9 = .ok (.aload_n 0, 1) := by decide +kernel
theorem dX9_meanOf_10 : decode cX9_meanOf 10 = .ok (.iload_n 1, 1) := by decide +kernel
theorem dX9_meanOf_11 : decode cX9_meanOf 11 = .ok (.iconst 1, 1) := by decide +kernel
theorem dX9_meanOf_12 : decode cX9_meanOf 12 = .ok (.iload_n 2, 1) := by decide +kernel
theorem dX9_meanOf_13 : decode cX9_meanOf 13 = .ok (.invokevirtual 199, 3) := by decide +kernel
theorem dX9_meanOf_16 : decode cX9_meanOf 16 = .ok (.istore 5, 2) := by decide +kernel
theorem dX9_meanOf_18 : decode cX9_meanOf 18 = .ok (.aload_n 0, 1) := by decide +kernel
theorem dX9_meanOf_19 : decode cX9_meanOf 19 = .ok (.iload_n 1, 1) := by decide +kernel
theorem dX9_meanOf_20 : decode cX9_meanOf 20 = .ok (.iconst 2, 1) := by decide +kernel
theorem dX9_meanOf_21 : decode cX9_meanOf 21 = .ok (.iload_n 2, 1) := by decide +kernel
theorem dX9_meanOf_22 : decode cX9_meanOf 22 = .ok (.invokevirtual 199, 3) := by decide +kernel
theorem dX9_meanOf_25 : decode cX9_meanOf 25 = .ok (.istore 6, 2) := by decide +kernel
theorem dX9_meanOf_27 : decode cX9_meanOf 27 = .ok (.lconst 0, 1) := by decide +kernel
theorem dX9_meanOf_28 : decode cX9_meanOf 28 = .ok (.lstore 7, 2) := by decide +kernel
theorem dX9_meanOf_30 : decode cX9_meanOf 30 = .ok (.iconst 0, 1) := by decide +kernel
theorem dX9_meanOf_31 : decode cX9_meanOf 31 = .ok (.istore 9, 2) := by decide +kernel
theorem dX9_meanOf_33 : decode cX9_meanOf 33 = .ok (.iload 9, 2) := by decide +kernel
theorem dX9_meanOf_35 : decode cX9_meanOf 35 = .ok (.bipush 8, 2) := by decide +kernel
theorem dX9_meanOf_37 : decode cX9_meanOf 37 = .ok (.if_icmp .ge 130, 3) := by decide +kernel
theorem dX9_meanOf_40 : decode cX9_meanOf 40 = .ok (.iload 9, 2) := by decide +kernel
theorem dX9_meanOf_42 : decode cX9_meanOf 42 = .ok (.iconst 1, 1) := by decide +kernel
theorem dX9_meanOf_43 : decode cX9_meanOf 43 = .ok (.iand, 1) := by decide +kernel
theorem dX9_meanOf_44 : decode cX9_meanOf 44 = .ok (.iconst 1, 1) := by decide +kernel
theorem dX9_meanOf_45 : decode cX9_meanOf 45 = .ok (.if_icmp .ne 8, 3) := by decide +kernel
theorem dX9_meanOf_48 : decode cX9_meanOf 48 = .ok (.iload 4, 2) := by decide +kernel
theorem dX9_meanOf_50 : decode cX9_meanOf 50 = .ok (.goto 8, 3) := by decide +kernel
theorem dX9_meanOf_53 : decode cX9_meanOf 53 = .ok (.bipush 10, 2) := by decide +kernel
theorem dX9_meanOf_55 : decode cX9_meanOf 55 = .ok (.iload 4, 2) := by decide +kernel
theorem dX9_meanOf_57 : decode cX9_meanOf 57 = .ok (.isub, 1) := by decide +kernel
theorem dX9_meanOf_58 : decode cX9_meanOf 58 = .ok (.iload 9, 2) := by decide +kernel
theorem dX9_meanOf_60 : decode cX9_meanOf 60 = .ok (.iconst 2, 1) := by decide +kernel
theorem dX9_meanOf_61 : decode cX9_meanOf 61 = .ok (.iand, 1) := by decide +kernel
theorem dX9_meanOf_62 : decode cX9_meanOf 62 = .ok (.iconst 2, 1) := by decide +kernel
theorem dX9_meanOf_63 : decode cX9_meanOf 63 = .ok (.if_icmp .ne 8, 3) := by decide +kernel
theorem dX9_meanOf_66 : decode cX9_meanOf 66 = .ok (.iload 5, 2) := by decide +kernel
theorem dX9_meanOf_68 : decode cX9_meanOf 68 = .ok (.goto 8, 3) := by decide +kernel
theorem dX9_meanOf_71 : decode cX9_meanOf 71 = .ok (.bipush 10, 2) := by decide +kernel
theorem dX9_meanOf_73 : decode cX9_meanOf 73 = .ok (.iload 5, 2) := by decide +kernel
theorem dX9_meanOf_75 : decode cX9_meanOf 75 = .ok (.isub, 1) := by decide +kernel
theorem dX9_meanOf_76 : decode cX9_meanOf 76 = .ok (.imul, 1) := by decide +kernel
theorem dX9_meanOf_77 : decode cX9_meanOf 77 = .ok (.iload 9, 2) := by decide +kernel
theorem dX9_meanOf_79 : decode cX9_meanOf 79 = .ok (.iconst 4, 1) := by decide +kernel
theorem dX9_meanOf_80 : decode cX9_meanOf 80 = .ok (.iand, 1) := by decide +kernel
theorem dX9_meanOf_81 : decode cX9_meanOf 81 = .ok (.iconst 4, 1) := by decide +kernel
theorem dX9_meanOf_82 : decode cX9_meanOf 82 = .ok (.if_icmp .ne 8, 3) := by decide +kernel
theorem dX9_meanOf_85 : decode cX9_meanOf 85 = .ok (.iload 6, 2) := by decide +kernel
theorem dX9_meanOf_87 : decode cX9_meanOf 87 = .ok (.goto 8, 3) := by decide +kernel
theorem dX9_meanOf_90 : decode cX9_meanOf 90 = .ok (.bipush 10, 2) := by decide +kernel
theorem dX9_meanOf_92 : decode cX9_meanOf 92 = .ok (.iload 6, 2) := by decide +kernel
theorem dX9_meanOf_94 : decode cX9_meanOf 94 = .ok (.isub, 1) := by decide +kernel
theorem dX9_meanOf_95 : decode cX9_meanOf 95 = .ok (.imul, 1) := by decide +kernel
theorem dX9_meanOf_96 : decode cX9_meanOf 96 = .ok (.istore 10, 2) := by decide +kernel
theorem dX9_meanOf_98 : decode cX9_meanOf 98 = .ok (.iload 10, 2) := by decide +kernel
theorem dX9_meanOf_100 : decode cX9_meanOf 100 = .ok (.ifCond .le 61, 3) := by decide +kernel
theorem dX9_meanOf_103 : decode cX9_meanOf 103 = .ok (.iload_n 1, 1) := by decide +kernel
theorem dX9_meanOf_104 : decode cX9_meanOf 104 = .ok (.iconst 4, 1) := by decide +kernel
theorem dX9_meanOf_105 : decode cX9_meanOf 105 = .ok (.iload 9, 2) := by decide +kernel
theorem dX9_meanOf_107 : decode cX9_meanOf 107 = .ok (.iconst 1, 1) := by decide +kernel
theorem dX9_meanOf_108 : decode cX9_meanOf 108 = .ok (.iand, 1) := by decide +kernel
theorem dX9_meanOf_109 : decode cX9_meanOf 109 = .ok (.imul, 1) := by decide +kernel
theorem dX9_meanOf_110 : decode cX9_meanOf 110 = .ok (.iadd, 1) := by decide +kernel
theorem dX9_meanOf_111 : decode cX9_meanOf 111 = .ok (.bipush 32, 2) := by decide +kernel
theorem dX9_meanOf_113 : decode cX9_meanOf 113 = .ok (.iload 9, 2) := by decide +kernel
theorem dX9_meanOf_115 : decode cX9_meanOf 115 = .ok (.iconst 2, 1) := by decide +kernel
theorem dX9_meanOf_116 : decode cX9_meanOf 116 = .ok (.iand, 1) := by decide +kernel
theorem dX9_meanOf_117 : decode cX9_meanOf 117 = .ok (.imul, 1) := by decide +kernel
theorem dX9_meanOf_118 : decode cX9_meanOf 118 = .ok (.iadd, 1) := by decide +kernel
theorem dX9_meanOf_119 : decode cX9_meanOf 119 = .ok (.sipush 256, 3) := by decide +kernel
theorem dX9_meanOf_122 : decode cX9_meanOf 122 = .ok (.iload 9, 2) := by decide +kernel
theorem dX9_meanOf_124 : decode cX9_meanOf 124 = .ok (.iconst 4, 1) := by decide +kernel
theorem dX9_meanOf_125 : decode cX9_meanOf 125 = .ok (.iand, 1) := by decide +kernel
theorem dX9_meanOf_126 : decode cX9_meanOf 126 = .ok (.imul, 1) := by decide +kernel
theorem dX9_meanOf_127 : decode cX9_meanOf 127 = .ok (.iadd, 1) := by decide +kernel
theorem dX9_meanOf_128 : decode cX9_meanOf 128 = .ok (.istore 11, 2) := by decide +kernel
theorem dX9_meanOf_130 : decode cX9_meanOf 130 = .ok (.lload 7, 2) := by decide +kernel
theorem dX9_meanOf_132 : decode cX9_meanOf 132 = .ok (.iload 10, 2) := by decide +kernel
theorem dX9_meanOf_134 : decode cX9_meanOf 134 = .ok (.i2l, 1) := by decide +kernel
theorem dX9_meanOf_135 : decode cX9_meanOf 135 = .ok (.iload_n 3, 1) := by decide +kernel
theorem dX9_meanOf_136 : decode cX9_meanOf 136 = .ok (.ifCond .eq 13, 3) := by decide +kernel
theorem dX9_meanOf_139 : decode cX9_meanOf 139 = .ok (.aload_n 0, 1) := by decide +kernel
theorem dX9_meanOf_140 : decode cX9_meanOf 140 = .ok (.getfield 69, 3) := by decide +kernel
theorem dX9_meanOf_143 : decode cX9_meanOf 143 = .ok (.iload 11, 2) := by decide +kernel
theorem dX9_meanOf_145 : decode cX9_meanOf 145 = .ok (.iaload, 1) := by decide +kernel
theorem dX9_meanOf_146 : decode cX9_meanOf 146 = .ok (.goto 10, 3) := by decide +kernel
theorem dX9_meanOf_149 : decode cX9_meanOf 149 = .ok (.aload_n 0, 1) := by decide +kernel
theorem dX9_meanOf_150 : decode cX9_meanOf 150 = .ok (.getfield 72, 3) := by decide +kernel
theorem dX9_meanOf_153 : decode cX9_meanOf 153 = .ok (.iload 11, 2) := by decide +kernel
theorem dX9_meanOf_155 : decode cX9_meanOf 155 = .ok (.iaload, 1) := by decide +kernel
theorem dX9_meanOf_156 : decode cX9_meanOf 156 = .ok (.i2l, 1) := by decide +kernel
theorem dX9_meanOf_157 : decode cX9_meanOf 157 = .ok (.lmul, 1) := by decide +kernel
theorem dX9_meanOf_158 : decode cX9_meanOf 158 = .ok (.ladd, 1) := by decide +kernel
theorem dX9_meanOf_159 : decode cX9_meanOf 159 = .ok (.lstore 7, 2) := by decide +kernel
theorem dX9_meanOf_161 : decode cX9_meanOf 161 = .ok (.iinc 9 1, 3) := by decide +kernel
theorem dX9_meanOf_164 : decode cX9_meanOf 164 = .ok (.goto (-131), 3) := by decide +kernel
theorem dX9_meanOf_167 : decode cX9_meanOf 167 = .ok (.lload 7, 2) := by decide +kernel
theorem dX9_meanOf_169 : decode cX9_meanOf 169 = .ok (.ldc2_w 203, 3) := by decide +kernel
theorem dX9_meanOf_172 : decode cX9_meanOf 172 = .ok (.ldiv, 1) := by decide +kernel
theorem dX9_meanOf_173 : decode cX9_meanOf 173 = .ok (.l2i, 1) := by decide +kernel
theorem dX9_meanOf_174 : decode cX9_meanOf 174 = .ok (.ireturn, 1) := by decide +kernel
theorem dX9_tenths_0 : decode cX9_tenths 0 = .ok (.iload_n 1, 1) := by decide +kernel
theorem dX9_tenths_1 : decode cX9_tenths 1 = .ok (.iload_n 2, 1) := by decide +kernel
theorem dX9_tenths_2 : decode cX9_tenths 2 = .ok (.invokestatic 175, 3) := by decide +kernel
theorem dX9_tenths_5 : decode cX9_tenths 5 = .ok (.istore 4, 2) := by decide +kernel
theorem dX9_tenths_7 : decode cX9_tenths 7 = .ok (.aload_n 0, 1) := by decide +kernel
theorem dX9_tenths_8 : decode cX9_tenths 8 = .ok (.iload_n 2, 1) := by decide +kernel
theorem dX9_tenths_9 : decode cX9_tenths 9 = .ok (.invokevirtual 164, 3) := by decide +kernel
theorem dX9_tenths_12 : decode cX9_tenths 12 = .ok (.ifCond .eq 20, 3) := by decide +kernel
theorem dX9_tenths_15 : decode cX9_tenths 15 = .ok (.aload_n 0, 1) := by decide +kernel
theorem dX9_tenths_16 : decode cX9_tenths 16 = .ok (.iload_n 2, 1) := by decide +kernel
theorem dX9_tenths_17 : decode cX9_tenths 17 = .ok (.iload 4, 2) := by decide +kernel
theorem dX9_tenths_19 : decode cX9_tenths 19 = .ok (.iconst 2, 1) := by decide +kernel
theorem dX9_tenths_20 : decode cX9_tenths 20 = .ok (.ishr, 1) := by decide +kernel
theorem dX9_tenths_21 : decode cX9_tenths 21 = .ok (.iload 4, 2) := by decide +kernel
theorem dX9_tenths_23 : decode cX9_tenths 23 = .ok (.iconst 3, 1) := by decide +kernel
theorem dX9_tenths_24 : decode cX9_tenths 24 = .ok (.iand, 1) := by decide +kernel
theorem dX9_tenths_25 : decode cX9_tenths 25 = .ok (.iload_n 3, 1) := by decide +kernel
theorem dX9_tenths_26 : decode cX9_tenths 26 = .ok (.invokevirtual 171, 3) := by decide +kernel
theorem dX9_tenths_29 : decode cX9_tenths 29 = .ok (.goto 4, 3) := by decide +kernel
theorem dX9_tenths_32 : decode cX9_tenths 32 = .ok (.iconst 0, 1) := by decide +kernel
theorem dX9_tenths_33 : decode cX9_tenths 33 = .ok (.ireturn, 1) := by decide +kernel
theorem dX9_bringsBy_0 : decode cX9_bringsBy 0 = .ok (.sipush 1000, 3) := by decide +kernel
theorem dX9_bringsBy_3 : decode cX9_bringsBy 3 = .ok (.aload_n 0, 1) := by decide +kernel
theorem dX9_bringsBy_4 : decode cX9_bringsBy 4 = .ok (.iload_n 1, 1) := by decide +kernel
theorem dX9_bringsBy_5 : decode cX9_bringsBy 5 = .ok (.iload_n 2, 1) := by decide +kernel
theorem dX9_bringsBy_6 : decode cX9_bringsBy 6 = .ok (.iload_n 3, 1) := by decide +kernel
theorem dX9_bringsBy_7 : decode cX9_bringsBy 7 = .ok (.invokevirtual 205, 3) := by decide +kernel
theorem dX9_bringsBy_10 : decode cX9_bringsBy 10 = .ok (.imul, 1) := by decide +kernel
theorem dX9_bringsBy_11 : decode cX9_bringsBy 11 = .ok (.aload_n 0, 1) := by decide +kernel
theorem dX9_bringsBy_12 : decode cX9_bringsBy 12 = .ok (.aload_n 0, 1) := by decide +kernel
theorem dX9_bringsBy_13 : decode cX9_bringsBy 13 = .ok (.iload_n 1, 1) := by decide +kernel
theorem dX9_bringsBy_14 : decode cX9_bringsBy 14 = .ok (.iload_n 2, 1) := by decide +kernel
theorem dX9_bringsBy_15 : decode cX9_bringsBy 15 = .ok (.invokevirtual 208, 3) := by decide +kernel
theorem dX9_bringsBy_18 : decode cX9_bringsBy 18 = .ok (.iload_n 3, 1) := by decide +kernel
theorem dX9_bringsBy_19 : decode cX9_bringsBy 19 = .ok (.iconst 1, 1) := by decide +kernel
theorem dX9_bringsBy_20 : decode cX9_bringsBy 20 = .ok (.invokevirtual 211, 3) := by decide +kernel
theorem dX9_bringsBy_23 : decode cX9_bringsBy 23 = .ok (.iadd, 1) := by decide +kernel
theorem dX9_bringsBy_24 : decode cX9_bringsBy 24 = .ok (.ireturn, 1) := by decide +kernel
theorem dX9_choose_0 : decode cX9_choose 0 = .ok (.bipush 6, 2) := by decide +kernel
theorem dX9_choose_2 : decode cX9_choose 2 = .ok (.istore 4, 2) := by decide +kernel
theorem dX9_choose_4 : decode cX9_choose 4 = .ok (.iload_n 1, 1) := by decide +kernel
theorem dX9_choose_5 : decode cX9_choose 5 = .ok (.iconst 4, 1) := by decide +kernel
theorem dX9_choose_6 : decode cX9_choose 6 = .ok (.if_icmp .ne 81, 3) := by decide +kernel
theorem dX9_choose_9 : decode cX9_choose 9 = .ok (.iconst (-1), 1) := by decide +kernel
theorem dX9_choose_10 : decode cX9_choose 10 = .ok (.istore 5, 2) := by decide +kernel
theorem dX9_choose_12 : decode cX9_choose 12 = .ok (.iconst 0, 1) := by decide +kernel
theorem dX9_choose_13 : decode cX9_choose 13 = .ok (.istore 6, 2) := by decide +kernel
theorem dX9_choose_15 : decode cX9_choose 15 = .ok (.iload 6, 2) := by decide +kernel
theorem dX9_choose_17 : decode cX9_choose 17 = .ok (.bipush 6, 2) := by decide +kernel
theorem dX9_choose_19 : decode cX9_choose 19 = .ok (.if_icmp .gt 65, 3) := by decide +kernel
theorem dX9_choose_22 : decode cX9_choose 22 = .ok (.aload_n 0, 1) := by decide +kernel
theorem dX9_choose_23 : decode cX9_choose 23 = .ok (.iload_n 2, 1) := by decide +kernel
theorem dX9_choose_24 : decode cX9_choose 24 = .ok (.iload 6, 2) := by decide +kernel
theorem dX9_choose_26 : decode cX9_choose 26 = .ok (.invokevirtual 215, 3) := by decide +kernel
theorem dX9_choose_29 : decode cX9_choose 29 = .ok (.ifCond .eq 14, 3) := by decide +kernel
theorem dX9_choose_32 : decode cX9_choose 32 = .ok (.aload_n 0, 1) := by decide +kernel
theorem dX9_choose_33 : decode cX9_choose 33 = .ok (.iload_n 2, 1) := by decide +kernel
theorem dX9_choose_34 : decode cX9_choose 34 = .ok (.iload 6, 2) := by decide +kernel
theorem dX9_choose_36 : decode cX9_choose 36 = .ok (.iload_n 3, 1) := by decide +kernel
theorem dX9_choose_37 : decode cX9_choose 37 = .ok (.invokevirtual 218, 3) := by decide +kernel
theorem dX9_choose_40 : decode cX9_choose 40 = .ok (.goto 4, 3) := by decide +kernel
theorem dX9_choose_43 : decode cX9_choose 43 = .ok (.iconst (-1), 1) := by decide +kernel
theorem dX9_choose_44 : decode cX9_choose 44 = .ok (.istore 7, 2) := by decide +kernel
theorem dX9_choose_46 : decode cX9_choose 46 = .ok (.iload 7, 2) := by decide +kernel
theorem dX9_choose_48 : decode cX9_choose 48 = .ok (.iload 5, 2) := by decide +kernel
theorem dX9_choose_50 : decode cX9_choose 50 = .ok (.if_icmp .le 8, 3) := by decide +kernel
theorem dX9_choose_53 : decode cX9_choose 53 = .ok (.iload 6, 2) := by decide +kernel
theorem dX9_choose_55 : decode cX9_choose 55 = .ok (.goto 5, 3) := by decide +kernel
theorem dX9_choose_58 : decode cX9_choose 58 = .ok (.iload 4, 2) := by decide +kernel
theorem dX9_choose_60 : decode cX9_choose 60 = .ok (.istore 4, 2) := by decide +kernel
theorem dX9_choose_62 : decode cX9_choose 62 = .ok (.iload 7, 2) := by decide +kernel
theorem dX9_choose_64 : decode cX9_choose 64 = .ok (.iload 5, 2) := by decide +kernel
theorem dX9_choose_66 : decode cX9_choose 66 = .ok (.if_icmp .le 8, 3) := by decide +kernel
theorem dX9_choose_69 : decode cX9_choose 69 = .ok (.iload 7, 2) := by decide +kernel
theorem dX9_choose_71 : decode cX9_choose 71 = .ok (.goto 5, 3) := by decide +kernel
theorem dX9_choose_74 : decode cX9_choose 74 = .ok (.iload 5, 2) := by decide +kernel
theorem dX9_choose_76 : decode cX9_choose 76 = .ok (.istore 5, 2) := by decide +kernel
theorem dX9_choose_78 : decode cX9_choose 78 = .ok (.iinc 6 1, 3) := by decide +kernel
theorem dX9_choose_81 : decode cX9_choose 81 = .ok (.goto (-66), 3) := by decide +kernel
theorem dX9_choose_84 : decode cX9_choose 84 = .ok (.iload 4, 2) := by decide +kernel
theorem dX9_choose_86 : decode cX9_choose 86 = .ok (.ireturn, 1) := by decide +kernel
theorem dX9_choose_87 : decode cX9_choose 87 = .ok (.iconst 0, 1) := by decide +kernel
theorem dX9_choose_88 : decode cX9_choose 88 = .ok (.istore 5, 2) := by decide +kernel
theorem dX9_choose_90 : decode cX9_choose 90 = .ok (.iload 5, 2) := by decide +kernel
theorem dX9_choose_92 : decode cX9_choose 92 = .ok (.aload_n 0, 1) := by decide +kernel
theorem dX9_choose_93 : decode cX9_choose 93 = .ok (.getfield 17, 3) := by decide +kernel
theorem dX9_choose_96 : decode cX9_choose 96 = .ok (.iconst 0, 1) := by decide +kernel
theorem dX9_choose_97 : decode cX9_choose 97 = .ok (.iaload, 1) := by decide +kernel
theorem dX9_choose_98 : decode cX9_choose 98 = .ok (.if_icmp .ge 158, 3) := by decide +kernel
theorem dX9_choose_101 : decode cX9_choose 101 = .ok (.aload_n 0, 1) := by decide +kernel
theorem dX9_choose_102 : decode cX9_choose 102 = .ok (.iload_n 2, 1) := by decide +kernel
theorem dX9_choose_103 : decode cX9_choose 103 = .ok (.iload 5, 2) := by decide +kernel
theorem dX9_choose_105 : decode cX9_choose 105 = .ok (.invokevirtual 182, 3) := by decide +kernel
theorem dX9_choose_108 : decode cX9_choose 108 = .ok (.ifCond .eq 142, 3) := by decide +kernel
theorem dX9_choose_111 : decode cX9_choose 111 = .ok (.iload_n 2, 1) := by decide +kernel
theorem dX9_choose_112 : decode cX9_choose 112 = .ok (.iload 5, 2) := by decide +kernel
theorem dX9_choose_114 : decode cX9_choose 114 = .ok (.invokestatic 175, 3) := by decide +kernel
theorem dX9_choose_117 : decode cX9_choose 117 = .ok (.iconst 2, 1) := by decide +kernel
theorem dX9_choose_118 : decode cX9_choose 118 = .ok (.ishr, 1) := by decide +kernel
theorem dX9_choose_119 : decode cX9_choose 119 = .ok (.istore 6, 2) := by decide +kernel
theorem dX9_choose_121 : decode cX9_choose 121 = .ok (.iload 4, 2) := by decide +kernel
theorem dX9_choose_123 : decode cX9_choose 123 = .ok (.bipush 6, 2) := by decide +kernel
theorem dX9_choose_125 : decode cX9_choose 125 = .ok (.if_icmp .ne 7, 3) := by decide +kernel
theorem dX9_choose_128 : decode cX9_choose 128 = .ok (.iconst 0, 1) := by decide +kernel
theorem dX9_choose_129 : decode cX9_choose 129 = .ok (.goto 11, 3) := by decide +kernel
theorem dX9_choose_132 : decode cX9_choose 132 = .ok (.iload_n 2, 1) := by decide +kernel
theorem dX9_choose_133 : decode cX9_choose 133 = .ok (.iload 4, 2) := by decide +kernel
theorem dX9_choose_135 : decode cX9_choose 135 = .ok (.invokestatic 175, 3) := by decide +kernel
theorem dX9_choose_138 : decode cX9_choose 138 = .ok (.iconst 2, 1) := by decide +kernel
theorem dX9_choose_139 : decode cX9_choose 139 = .ok (.ishr, 1) := by decide +kernel
theorem dX9_choose_140 : decode cX9_choose 140 = .ok (.istore 7, 2) := by decide +kernel
theorem dX9_choose_142 : decode cX9_choose 142 = .ok (.iload_n 1, 1) := by decide +kernel
theorem dX9_choose_143 : decode cX9_choose 143 = .ok (.iconst 1, 1) := by decide +kernel
theorem dX9_choose_144 : decode cX9_choose 144 = .ok (.if_icmp .ne 18, 3) := by decide +kernel
theorem dX9_choose_147 : decode cX9_choose 147 = .ok (.iload 6, 2) := by decide +kernel
theorem dX9_choose_149 : decode cX9_choose 149 = .ok (.iload 7, 2) := by decide +kernel
theorem dX9_choose_151 : decode cX9_choose 151 = .ok (.if_icmp .le 7, 3) := by decide +kernel
theorem dX9_choose_154 : decode cX9_choose 154 = .ok (.iconst 1, 1) := by decide +kernel
theorem dX9_choose_155 : decode cX9_choose 155 = .ok (.goto 72, 3) := by decide +kernel
theorem dX9_choose_158 : decode cX9_choose 158 = .ok (.iconst 0, 1) := by decide +kernel
theorem dX9_choose_159 : decode cX9_choose 159 = .ok (.goto 68, 3) := by decide +kernel
theorem dX9_choose_162 : decode cX9_choose 162 = .ok (.iload_n 1, 1) := by decide +kernel
theorem dX9_choose_163 : decode cX9_choose 163 = .ok (.iconst 2, 1) := by decide +kernel
theorem dX9_choose_164 : decode cX9_choose 164 = .ok (.if_icmp .ne 32, 3) := by decide +kernel
theorem dX9_choose_167 : decode cX9_choose 167 = .ok (.aload_n 0, 1) := by decide +kernel
theorem dX9_choose_168 : decode cX9_choose 168 = .ok (.iload 5, 2) := by decide +kernel
theorem dX9_choose_170 : decode cX9_choose 170 = .ok (.iload 6, 2) := by decide +kernel
theorem dX9_choose_172 : decode cX9_choose 172 = .ok (.invokevirtual 168, 3) := by decide +kernel
theorem dX9_choose_175 : decode cX9_choose 175 = .ok (.aload_n 0, 1) := by decide +kernel
theorem dX9_choose_176 : decode cX9_choose 176 = .ok (.iload 4, 2) := by decide +kernel
theorem dX9_choose_178 : decode cX9_choose 178 = .ok (.iconst 3, 1) := by decide +kernel
theorem dX9_choose_179 : decode cX9_choose 179 = .ok (.irem, 1) := by decide +kernel
theorem dX9_choose_180 : decode cX9_choose 180 = .ok (.iload 7, 2) := by decide +kernel
theorem dX9_choose_182 : decode cX9_choose 182 = .ok (.invokevirtual 168, 3) := by decide +kernel
theorem dX9_choose_185 : decode cX9_choose 185 = .ok (.if_icmp .ge 7, 3) := by decide +kernel
theorem dX9_choose_188 : decode cX9_choose 188 = .ok (.iconst 1, 1) := by decide +kernel
theorem dX9_choose_189 : decode cX9_choose 189 = .ok (.goto 38, 3) := by decide +kernel
theorem dX9_choose_192 : decode cX9_choose 192 = .ok (.iconst 0, 1) := by decide +kernel
theorem dX9_choose_193 : decode cX9_choose 193 = .ok (.goto 34, 3) := by decide +kernel
theorem dX9_choose_196 : decode cX9_choose 196 = .ok (.iload_n 1, 1) := by decide +kernel
theorem dX9_choose_197 : decode cX9_choose 197 = .ok (.iconst 3, 1) := by decide +kernel
theorem dX9_choose_198 : decode cX9_choose 198 = .ok (.if_icmp .ne 28, 3) := by decide +kernel
theorem dX9_choose_201 : decode cX9_choose 201 = .ok (.aload_n 0, 1) := by decide +kernel
theorem dX9_choose_202 : decode cX9_choose 202 = .ok (.iload 5, 2) := by decide +kernel
theorem dX9_choose_204 : decode cX9_choose 204 = .ok (.iload 6, 2) := by decide +kernel
theorem dX9_choose_206 : decode cX9_choose 206 = .ok (.invokevirtual 168, 3) := by decide +kernel
theorem dX9_choose_209 : decode cX9_choose 209 = .ok (.aload_n 0, 1) := by decide +kernel
theorem dX9_choose_210 : decode cX9_choose 210 = .ok (.iload 4, 2) := by decide +kernel
theorem dX9_choose_212 : decode cX9_choose 212 = .ok (.iconst 3, 1) := by decide +kernel
theorem dX9_choose_213 : decode cX9_choose 213 = .ok (.irem, 1) := by decide +kernel
theorem dX9_choose_214 : decode cX9_choose 214 = .ok (.iload 7, 2) := by decide +kernel
theorem dX9_choose_216 : decode cX9_choose 216 = .ok (.invokevirtual 168, 3) := by decide +kernel
theorem dX9_choose_219 : decode cX9_choose 219 = .ok (.if_icmp .le 7, 3) := by decide +kernel
theorem dX9_choose_222 : decode cX9_choose 222 = .ok (.iconst 1, 1) := by decide +kernel
theorem dX9_choose_223 : decode cX9_choose 223 = .ok (.goto 4, 3) := by decide +kernel
theorem dX9_choose_226 : decode cX9_choose 226 = .ok (.iconst 0, 1) := by decide +kernel
theorem dX9_choose_227 : decode cX9_choose 227 = .ok (.istore 8, 2) := by decide +kernel
theorem dX9_choose_229 : decode cX9_choose 229 = .ok (.iload 4, 2) := by decide +kernel
theorem dX9_choose_231 : decode cX9_choose 231 = .ok (.bipush 6, 2) := by decide +kernel
theorem dX9_choose_233 : decode cX9_choose 233 = .ok (.if_icmp .eq 8, 3) := by decide +kernel
theorem dX9_choose_236 : decode cX9_choose 236 = .ok (.iload 8, 2) := by decide +kernel
theorem dX9_choose_238 : decode cX9_choose 238 = .ok (.ifCond .eq 8, 3) := by decide +kernel
theorem dX9_choose_241 : decode cX9_choose 241 = .ok (.iload 5, 2) := by decide +kernel
theorem dX9_choose_243 : decode cX9_choose 243 = .ok (.goto 5, 3) := by decide +kernel
theorem dX9_choose_246 : decode cX9_choose 246 = .ok (.iload 4, 2) := by decide +kernel
theorem dX9_choose_248 : decode cX9_choose 248 = .ok (.istore 4, 2) := by decide +kernel
theorem dX9_choose_250 : decode cX9_choose 250 = .ok (.iinc 5 1, 3) := by decide +kernel
theorem dX9_choose_253 : decode cX9_choose 253 = .ok (.goto (-163), 3) := by decide +kernel
theorem dX9_choose_256 : decode cX9_choose 256 = .ok (.iload 4, 2) := by decide +kernel
theorem dX9_choose_258 : decode cX9_choose 258 = .ok (.ireturn, 1) := by decide +kernel
theorem dX9_isState_0 : decode cX9_isState 0 = .ok (.iconst 1, 1) := by decide +kernel
theorem dX9_isState_1 : decode cX9_isState 1 = .ok (.istore_n 2, 1) := by decide +kernel
theorem dX9_isState_2 : decode cX9_isState 2 = .ok (.iconst 0, 1) := by decide +kernel
theorem dX9_isState_3 : decode cX9_isState 3 = .ok (.istore_n 3, 1) := by decide +kernel
theorem dX9_isState_4 : decode cX9_isState 4 = .ok (.iload_n 3, 1) := by decide +kernel
theorem dX9_isState_5 : decode cX9_isState 5 = .ok (.iconst 3, 1) := by decide +kernel
theorem dX9_isState_6 : decode cX9_isState 6 = .ok (.if_icmp .ge 55, 3) := by decide +kernel
theorem dX9_isState_9 : decode cX9_isState 9 = .ok (.iload_n 1, 1) := by decide +kernel
theorem dX9_isState_10 : decode cX9_isState 10 = .ok (.iload_n 3, 1) := by decide +kernel
theorem dX9_isState_11 : decode cX9_isState 11 = .ok (.invokestatic 175, 3) := by decide +kernel
theorem dX9_isState_14 : decode cX9_isState 14 = .ok (.istore 4, 2) := by decide +kernel
theorem dX9_isState_16 : decode cX9_isState 16 = .ok (.iload_n 2, 1) := by decide +kernel
theorem dX9_isState_17 : decode cX9_isState 17 = .ok (.ifCond .eq 36, 3) := by decide +kernel
theorem dX9_isState_20 : decode cX9_isState 20 = .ok (.aload_n 0, 1) := by decide +kernel
theorem dX9_isState_21 : decode cX9_isState 21 = .ok (.iload_n 3, 1) := by decide +kernel
theorem dX9_isState_22 : decode cX9_isState 22 = .ok (.invokevirtual 164, 3) := by decide +kernel
theorem dX9_isState_25 : decode cX9_isState 25 = .ok (.ifCond .eq 19, 3) := by decide +kernel
theorem dX9_isState_28 : decode cX9_isState 28 = .ok (.iload 4, 2) := by decide +kernel
theorem dX9_isState_30 : decode cX9_isState 30 = .ok (.iconst 3, 1) := by decide +kernel
theorem dX9_isState_31 : decode cX9_isState 31 = .ok (.iand, 1) := by decide +kernel
theorem dX9_isState_32 : decode cX9_isState 32 = .ok (.aload_n 0, 1) := by decide +kernel
theorem dX9_isState_33 : decode cX9_isState 33 = .ok (.getfield 32, 3) := by decide +kernel
theorem dX9_isState_36 : decode cX9_isState 36 = .ok (.iload_n 3, 1) := by decide +kernel
theorem dX9_isState_37 : decode cX9_isState 37 = .ok (.iaload, 1) := by decide +kernel
theorem dX9_isState_38 : decode cX9_isState 38 = .ok (.if_icmp .gt 15, 3) := by decide +kernel
theorem dX9_isState_41 : decode cX9_isState 41 = .ok (.goto 8, 3) := by decide +kernel
theorem dX9_isState_44 : decode cX9_isState 44 = .ok (.iload 4, 2) := by decide +kernel
theorem dX9_isState_46 : decode cX9_isState 46 = .ok (.ifCond .ne 7, 3) := by decide +kernel
theorem dX9_isState_49 : decode cX9_isState 49 = .ok (.iconst 1, 1) := by decide +kernel
theorem dX9_isState_50 : decode cX9_isState 50 = .ok (.goto 4, 3) := by decide +kernel
theorem dX9_isState_53 : decode cX9_isState 53 = .ok (.iconst 0, 1) := by decide +kernel
theorem dX9_isState_54 : decode cX9_isState 54 = .ok (.istore_n 2, 1) := by decide +kernel
theorem dX9_isState_55 : decode cX9_isState 55 = .ok (.iinc 3 1, 3) := by decide +kernel
theorem dX9_isState_58 : decode cX9_isState 58 = .ok (.goto (-54), 3) := by decide +kernel
theorem dX9_isState_61 : decode cX9_isState 61 = .ok (.iload_n 2, 1) := by decide +kernel
theorem dX9_isState_62 : decode cX9_isState 62 = .ok (.ireturn, 1) := by decide +kernel
theorem dX9_work_0 : decode cX9_work 0 = .ok (.iconst 0, 1) := by decide +kernel
theorem dX9_work_1 : decode cX9_work 1 = .ok (.istore_n 3, 1) := by decide +kernel
theorem dX9_work_2 : decode cX9_work 2 = .ok (.iload_n 3, 1) := by decide +kernel
theorem dX9_work_3 : decode cX9_work 3 = .ok (.sipush 4096, 3) := by decide +kernel
theorem dX9_work_6 : decode cX9_work 6 = .ok (.if_icmp .ge 64, 3) := by decide +kernel
theorem dX9_work_9 : decode cX9_work 9 = .ok (.aload_n 0, 1) := by decide +kernel
theorem dX9_work_10 : decode cX9_work 10 = .ok (.getfield 69, 3) := by decide +kernel
theorem dX9_work_13 : decode cX9_work 13 = .ok (.iload_n 3, 1) := by decide +kernel
theorem dX9_work_14 : decode cX9_work 14 = .ok (.iconst 0, 1) := by decide +kernel
theorem dX9_work_15 : decode cX9_work 15 = .ok (.iastore, 1) := by decide +kernel
theorem dX9_work_16 : decode cX9_work 16 = .ok (.aload_n 0, 1) := by decide +kernel
theorem dX9_work_17 : decode cX9_work 17 = .ok (.getfield 72, 3) := by decide +kernel
theorem dX9_work_20 : decode cX9_work 20 = .ok (.iload_n 3, 1) := by decide +kernel
theorem dX9_work_21 : decode cX9_work 21 = .ok (.iconst 0, 1) := by decide +kernel
theorem dX9_work_22 : decode cX9_work 22 = .ok (.iastore, 1) := by decide +kernel
theorem dX9_work_23 : decode cX9_work 23 = .ok (.iconst 0, 1) := by decide +kernel
theorem dX9_work_24 : decode cX9_work 24 = .ok (.istore 4, 2) := by decide +kernel
theorem dX9_work_26 : decode cX9_work 26 = .ok (.iload 4, 2) := by decide +kernel
theorem dX9_work_28 : decode cX9_work 28 = .ok (.aload_n 0, 1) := by decide +kernel
theorem dX9_work_29 : decode cX9_work 29 = .ok (.getfield 17, 3) := by decide +kernel
theorem dX9_work_32 : decode cX9_work 32 = .ok (.iconst 0, 1) := by decide +kernel
theorem dX9_work_33 : decode cX9_work 33 = .ok (.iaload, 1) := by decide +kernel
theorem dX9_work_34 : decode cX9_work 34 = .ok (.if_icmp .ge 30, 3) := by decide +kernel
theorem dX9_work_37 : decode cX9_work 37 = .ok (.aload_n 0, 1) := by decide +kernel
theorem dX9_work_38 : decode cX9_work 38 = .ok (.getfield 72, 3) := by decide +kernel
theorem dX9_work_41 : decode cX9_work 41 = .ok (.iload_n 3, 1) := by decide +kernel
theorem dX9_work_42 : decode cX9_work 42 = .ok (.dup2, 1) := by decide +kernel
theorem dX9_work_43 : decode cX9_work 43 = .ok (.iaload, 1) := by decide +kernel
theorem dX9_work_44 : decode cX9_work 44 = .ok (.sipush 1000, 3) := by decide +kernel
theorem dX9_work_47 : decode cX9_work 47 = .ok (.iload_n 3, 1) := by decide +kernel
theorem dX9_work_48 : decode cX9_work 48 = .ok (.iload 4, 2) := by decide +kernel
theorem dX9_work_50 : decode cX9_work 50 = .ok (.invokestatic 175, 3) := by decide +kernel
theorem dX9_work_53 : decode cX9_work 53 = .ok (.iconst 3, 1) := by decide +kernel
theorem dX9_work_54 : decode cX9_work 54 = .ok (.iand, 1) := by decide +kernel
theorem dX9_work_55 : decode cX9_work 55 = .ok (.imul, 1) := by decide +kernel
theorem dX9_work_56 : decode cX9_work 56 = .ok (.iadd, 1) := by decide +kernel
theorem dX9_work_57 : decode cX9_work 57 = .ok (.iastore, 1) := by decide +kernel
theorem dX9_work_58 : decode cX9_work 58 = .ok (.iinc 4 1, 3) := by decide +kernel
theorem dX9_work_61 : decode cX9_work 61 = .ok (.goto (-35), 3) := by decide +kernel
theorem dX9_work_64 : decode cX9_work 64 = .ok (.iinc 3 1, 3) := by decide +kernel
theorem dX9_work_67 : decode cX9_work 67 = .ok (.goto (-65), 3) := by decide +kernel
theorem dX9_work_70 : decode cX9_work 70 = .ok (.aload_n 0, 1) := by decide +kernel
theorem dX9_work_71 : decode cX9_work 71 = .ok (.getfield 20, 3) := by decide +kernel
theorem dX9_work_74 : decode cX9_work 74 = .ok (.iconst 0, 1) := by decide +kernel
theorem dX9_work_75 : decode cX9_work 75 = .ok (.iaload, 1) := by decide +kernel
theorem dX9_work_76 : decode cX9_work 76 = .ok (.iconst 1, 1) := by decide +kernel
theorem dX9_work_77 : decode cX9_work 77 = .ok (.isub, 1) := by decide +kernel
theorem dX9_work_78 : decode cX9_work 78 = .ok (.istore_n 3, 1) := by decide +kernel
theorem dX9_work_79 : decode cX9_work 79 = .ok (.iload_n 3, 1) := by decide +kernel
theorem dX9_work_80 : decode cX9_work 80 = .ok (.iload_n 2, 1) := by decide +kernel
theorem dX9_work_81 : decode cX9_work 81 = .ok (.if_icmp .lt 141, 3) := by decide +kernel
theorem dX9_work_84 : decode cX9_work 84 = .ok (.iconst 0, 1) := by decide +kernel
theorem dX9_work_85 : decode cX9_work 85 = .ok (.istore 4, 2) := by decide +kernel
theorem dX9_work_87 : decode cX9_work 87 = .ok (.iload 4, 2) := by decide +kernel
theorem dX9_work_89 : decode cX9_work 89 = .ok (.iconst 1, 1) := by decide +kernel
theorem dX9_work_90 : decode cX9_work 90 = .ok (.iconst 4, 1) := by decide +kernel
theorem dX9_work_91 : decode cX9_work 91 = .ok (.aload_n 0, 1) := by decide +kernel
theorem dX9_work_92 : decode cX9_work 92 = .ok (.getfield 17, 3) := by decide +kernel
theorem dX9_work_95 : decode cX9_work 95 = .ok (.iconst 0, 1) := by decide +kernel
theorem dX9_work_96 : decode cX9_work 96 = .ok (.iaload, 1) := by decide +kernel
theorem dX9_work_97 : decode cX9_work 97 = .ok (.imul, 1) := by decide +kernel
theorem dX9_work_98 : decode cX9_work 98 = .ok (.ishl, 1) := by decide +kernel
theorem dX9_work_99 : decode cX9_work 99 = .ok (.if_icmp .ge 65, 3) := by decide +kernel
theorem dX9_work_102 : decode cX9_work 102 = .ok (.aload_n 0, 1) := by decide +kernel
theorem dX9_work_103 : decode cX9_work 103 = .ok (.iload 4, 2) := by decide +kernel
theorem dX9_work_105 : decode cX9_work 105 = .ok (.invokevirtual 221, 3) := by decide +kernel
theorem dX9_work_108 : decode cX9_work 108 = .ok (.ifCond .eq 50, 3) := by decide +kernel
theorem dX9_work_111 : decode cX9_work 111 = .ok (.aload_n 0, 1) := by decide +kernel
theorem dX9_work_112 : decode cX9_work 112 = .ok (.iload_n 1, 1) := by decide +kernel
theorem dX9_work_113 : decode cX9_work 113 = .ok (.iload 4, 2) := by decide +kernel
theorem dX9_work_115 : decode cX9_work 115 = .ok (.iload_n 3, 1) := by decide +kernel
theorem dX9_work_116 : decode cX9_work 116 = .ok (.invokevirtual 224, 3) := by decide +kernel
theorem dX9_work_119 : decode cX9_work 119 = .ok (.istore 5, 2) := by decide +kernel
theorem dX9_work_121 : decode cX9_work 121 = .ok (.aload_n 0, 1) := by decide +kernel
theorem dX9_work_122 : decode cX9_work 122 = .ok (.getfield 75, 3) := by decide +kernel
theorem dX9_work_125 : decode cX9_work 125 = .ok (.iload 4, 2) := by decide +kernel
theorem dX9_work_127 : decode cX9_work 127 = .ok (.aload_n 0, 1) := by decide +kernel
theorem dX9_work_128 : decode cX9_work 128 = .ok (.iload 4, 2) := by decide +kernel
theorem dX9_work_130 : decode cX9_work 130 = .ok (.iload 5, 2) := by decide +kernel
theorem dX9_work_132 : decode cX9_work 132 = .ok (.iload_n 3, 1) := by decide +kernel
theorem dX9_work_133 : decode cX9_work 133 = .ok (.invokevirtual 218, 3) := by decide +kernel
theorem dX9_work_136 : decode cX9_work 136 = .ok (.iastore, 1) := by decide +kernel
theorem dX9_work_137 : decode cX9_work 137 = .ok (.aload_n 0, 1) := by decide +kernel
theorem dX9_work_138 : decode cX9_work 138 = .ok (.getfield 78, 3) := by decide +kernel
theorem dX9_work_141 : decode cX9_work 141 = .ok (.iload 4, 2) := by decide +kernel
theorem dX9_work_143 : decode cX9_work 143 = .ok (.aload_n 0, 1) := by decide +kernel
theorem dX9_work_144 : decode cX9_work 144 = .ok (.aload_n 0, 1) := by decide +kernel
theorem dX9_work_145 : decode cX9_work 145 = .ok (.iload 4, 2) := by decide +kernel
theorem dX9_work_147 : decode cX9_work 147 = .ok (.iload 5, 2) := by decide +kernel
theorem dX9_work_149 : decode cX9_work 149 = .ok (.invokevirtual 208, 3) := by decide +kernel
theorem dX9_work_152 : decode cX9_work 152 = .ok (.iload_n 3, 1) := by decide +kernel
theorem dX9_work_153 : decode cX9_work 153 = .ok (.iconst 0, 1) := by decide +kernel
theorem dX9_work_154 : decode cX9_work 154 = .ok (.invokevirtual 211, 3) := by decide +kernel
theorem dX9_work_157 : decode cX9_work 157 = .ok (.iastore, 1) := by decide +kernel
theorem dX9_work_158 : decode cX9_work 158 = .ok (.iinc 4 1, 3) := by decide +kernel
theorem dX9_work_161 : decode cX9_work 161 = .ok (.goto (-74), 3) := by decide +kernel
theorem dX9_work_164 : decode cX9_work 164 = .ok (.iconst 0, 1) := by decide +kernel
theorem dX9_work_165 : decode cX9_work 165 = .ok (.istore 4, 2) := by decide +kernel
theorem dX9_work_167 : decode cX9_work 167 = .ok (.iload 4, 2) := by decide +kernel
theorem dX9_work_169 : decode cX9_work 169 = .ok (.iconst 1, 1) := by decide +kernel
theorem dX9_work_170 : decode cX9_work 170 = .ok (.iconst 4, 1) := by decide +kernel
theorem dX9_work_171 : decode cX9_work 171 = .ok (.aload_n 0, 1) := by decide +kernel
theorem dX9_work_172 : decode cX9_work 172 = .ok (.getfield 17, 3) := by decide +kernel
theorem dX9_work_175 : decode cX9_work 175 = .ok (.iconst 0, 1) := by decide +kernel
theorem dX9_work_176 : decode cX9_work 176 = .ok (.iaload, 1) := by decide +kernel
theorem dX9_work_177 : decode cX9_work 177 = .ok (.imul, 1) := by decide +kernel
theorem dX9_work_178 : decode cX9_work 178 = .ok (.ishl, 1) := by decide +kernel
theorem dX9_work_179 : decode cX9_work 179 = .ok (.if_icmp .ge 37, 3) := by decide +kernel
theorem dX9_work_182 : decode cX9_work 182 = .ok (.aload_n 0, 1) := by decide +kernel
theorem dX9_work_183 : decode cX9_work 183 = .ok (.getfield 69, 3) := by decide +kernel
theorem dX9_work_186 : decode cX9_work 186 = .ok (.iload 4, 2) := by decide +kernel
theorem dX9_work_188 : decode cX9_work 188 = .ok (.aload_n 0, 1) := by decide +kernel
theorem dX9_work_189 : decode cX9_work 189 = .ok (.getfield 75, 3) := by decide +kernel
theorem dX9_work_192 : decode cX9_work 192 = .ok (.iload 4, 2) := by decide +kernel
theorem dX9_work_194 : decode cX9_work 194 = .ok (.iaload, 1) := by decide +kernel
theorem dX9_work_195 : decode cX9_work 195 = .ok (.iastore, 1) := by decide +kernel
theorem dX9_work_196 : decode cX9_work 196 = .ok (.aload_n 0, 1) := by decide +kernel
theorem dX9_work_197 : decode cX9_work 197 = .ok (.getfield 72, 3) := by decide +kernel
theorem dX9_work_200 : decode cX9_work 200 = .ok (.iload 4, 2) := by decide +kernel
theorem dX9_work_202 : decode cX9_work 202 = .ok (.aload_n 0, 1) := by decide +kernel
theorem dX9_work_203 : decode cX9_work 203 = .ok (.getfield 78, 3) := by decide +kernel
theorem dX9_work_206 : decode cX9_work 206 = .ok (.iload 4, 2) := by decide +kernel
theorem dX9_work_208 : decode cX9_work 208 = .ok (.iaload, 1) := by decide +kernel
theorem dX9_work_209 : decode cX9_work 209 = .ok (.iastore, 1) := by decide +kernel
theorem dX9_work_210 : decode cX9_work 210 = .ok (.iinc 4 1, 3) := by decide +kernel
theorem dX9_work_213 : decode cX9_work 213 = .ok (.goto (-46), 3) := by decide +kernel
theorem dX9_work_216 : decode cX9_work 216 = .ok (.iinc 3 (-1), 3) := by decide +kernel
theorem dX9_work_219 : decode cX9_work 219 = .ok (.goto (-140), 3) := by decide +kernel
theorem dX9_work_222 : decode cX9_work 222 = .ok (.return_, 1) := by decide +kernel
theorem dX9_isRule_0 : decode cX9_isRule 0 = .ok (.iload_n 0, 1) := by decide +kernel
theorem dX9_isRule_1 : decode cX9_isRule 1 = .ok (.iconst 0, 1) := by decide +kernel
theorem dX9_isRule_2 : decode cX9_isRule 2 = .ok (.iconst 4, 1) := by decide +kernel
theorem dX9_isRule_3 : decode cX9_isRule 3 = .ok (.invokestatic 103, 3) := by decide +kernel
theorem dX9_isRule_6 : decode cX9_isRule 6 = .ok (.ireturn, 1) := by decide +kernel
theorem dX9_chooseNow_0 : decode cX9_chooseNow 0 = .ok (.aload_n 0, 1) := by decide +kernel
theorem dX9_chooseNow_1 : decode cX9_chooseNow 1 = .ok (.iload_n 1, 1) := by decide +kernel
theorem dX9_chooseNow_2 : decode cX9_chooseNow 2 = .ok (.aload_n 0, 1) := by decide +kernel
theorem dX9_chooseNow_3 : decode cX9_chooseNow 3 = .ok (.getfield 41, 3) := by decide +kernel
theorem dX9_chooseNow_6 : decode cX9_chooseNow 6 = .ok (.iconst 0, 1) := by decide +kernel
theorem dX9_chooseNow_7 : decode cX9_chooseNow 7 = .ok (.iaload, 1) := by decide +kernel
theorem dX9_chooseNow_8 : decode cX9_chooseNow 8 = .ok (.iconst 1, 1) := by decide +kernel
theorem dX9_chooseNow_9 : decode cX9_chooseNow 9 = .ok (.iadd, 1) := by decide +kernel
theorem dX9_chooseNow_10 : decode cX9_chooseNow 10 = .ok (.invokevirtual 227, 3) := by decide +kernel
theorem dX9_chooseNow_13 : decode cX9_chooseNow 13 = .ok (.aload_n 0, 1) := by decide +kernel
theorem dX9_chooseNow_14 : decode cX9_chooseNow 14 = .ok (.getfield 44, 3) := by decide +kernel
theorem dX9_chooseNow_17 : decode cX9_chooseNow 17 = .ok (.iconst 0, 1) := by decide +kernel
theorem dX9_chooseNow_18 : decode cX9_chooseNow 18 = .ok (.baload, 1) := by decide +kernel
theorem dX9_chooseNow_19 : decode cX9_chooseNow 19 = .ok (.ifCond .eq 8, 3) := by decide +kernel
theorem dX9_chooseNow_22 : decode cX9_chooseNow 22 = .ok (.bipush 6, 2) := by decide +kernel
theorem dX9_chooseNow_24 : decode cX9_chooseNow 24 = .ok (.goto 18, 3) := by decide +kernel
theorem dX9_chooseNow_27 : decode cX9_chooseNow 27 = .ok (.aload_n 0, 1) := by decide +kernel
theorem dX9_chooseNow_28 : decode cX9_chooseNow 28 = .ok (.iload_n 1, 1) := by decide +kernel
theorem dX9_chooseNow_29 : decode cX9_chooseNow 29 = .ok (.aload_n 0, 1) := by decide +kernel
theorem dX9_chooseNow_30 : decode cX9_chooseNow 30 = .ok (.invokevirtual 192, 3) := by decide +kernel
theorem dX9_chooseNow_33 : decode cX9_chooseNow 33 = .ok (.aload_n 0, 1) := by decide +kernel
theorem dX9_chooseNow_34 : decode cX9_chooseNow 34 = .ok (.getfield 41, 3) := by decide +kernel
theorem dX9_chooseNow_37 : decode cX9_chooseNow 37 = .ok (.iconst 0, 1) := by decide +kernel
theorem dX9_chooseNow_38 : decode cX9_chooseNow 38 = .ok (.iaload, 1) := by decide +kernel
theorem dX9_chooseNow_39 : decode cX9_chooseNow 39 = .ok (.invokevirtual 224, 3) := by decide +kernel
theorem dX9_chooseNow_42 : decode cX9_chooseNow 42 = .ok (.ireturn, 1) := by decide +kernel
theorem dX9_valueNow_0 : decode cX9_valueNow 0 = .ok (.aload_n 0, 1) := by decide +kernel
theorem dX9_valueNow_1 : decode cX9_valueNow 1 = .ok (.invokevirtual 188, 3) := by decide +kernel
theorem dX9_valueNow_4 : decode cX9_valueNow 4 = .ok (.ifCond .eq 5, 3) := by decide +kernel
theorem dX9_valueNow_7 : decode cX9_valueNow 7 = .ok (.iconst 0, 1) := by decide +kernel
theorem dX9_valueNow_8 : decode cX9_valueNow 8 = .ok (.ireturn, 1) := by decide +kernel
theorem dX9_valueNow_9 : decode cX9_valueNow 9 = .ok (.aload_n 0, 1) := by decide +kernel
theorem dX9_valueNow_10 : decode cX9_valueNow 10 = .ok (.iload_n 1, 1) := by decide +kernel
theorem dX9_valueNow_11 : decode cX9_valueNow 11 = .ok (.invokevirtual 230, 3) := by decide +kernel
theorem dX9_valueNow_14 : decode cX9_valueNow 14 = .ok (.istore_n 2, 1) := by decide +kernel
theorem dX9_valueNow_15 : decode cX9_valueNow 15 = .ok (.aload_n 0, 1) := by decide +kernel
theorem dX9_valueNow_16 : decode cX9_valueNow 16 = .ok (.aload_n 0, 1) := by decide +kernel
theorem dX9_valueNow_17 : decode cX9_valueNow 17 = .ok (.invokevirtual 192, 3) := by decide +kernel
theorem dX9_valueNow_20 : decode cX9_valueNow 20 = .ok (.iload_n 2, 1) := by decide +kernel
theorem dX9_valueNow_21 : decode cX9_valueNow 21 = .ok (.aload_n 0, 1) := by decide +kernel
theorem dX9_valueNow_22 : decode cX9_valueNow 22 = .ok (.getfield 41, 3) := by decide +kernel
theorem dX9_valueNow_25 : decode cX9_valueNow 25 = .ok (.iconst 0, 1) := by decide +kernel
theorem dX9_valueNow_26 : decode cX9_valueNow 26 = .ok (.iaload, 1) := by decide +kernel
theorem dX9_valueNow_27 : decode cX9_valueNow 27 = .ok (.invokevirtual 218, 3) := by decide +kernel
theorem dX9_valueNow_30 : decode cX9_valueNow 30 = .ok (.ireturn, 1) := by decide +kernel
theorem dX9_value_0 : decode cX9_value 0 = .ok (.iload_n 1, 1) := by decide +kernel
theorem dX9_value_1 : decode cX9_value 1 = .ok (.invokestatic 233, 3) := by decide +kernel
theorem dX9_value_4 : decode cX9_value 4 = .ok (.ifCond .eq 11, 3) := by decide +kernel
theorem dX9_value_7 : decode cX9_value 7 = .ok (.aload_n 0, 1) := by decide +kernel
theorem dX9_value_8 : decode cX9_value 8 = .ok (.iload_n 1, 1) := by decide +kernel
theorem dX9_value_9 : decode cX9_value 9 = .ok (.invokevirtual 236, 3) := by decide +kernel
theorem dX9_value_12 : decode cX9_value 12 = .ok (.goto 4, 3) := by decide +kernel
theorem dX9_value_15 : decode cX9_value 15 = .ok (.iconst (-1), 1) := by decide +kernel
theorem dX9_value_16 : decode cX9_value 16 = .ok (.ireturn, 1) := by decide +kernel
theorem dX9_left_0 : decode cX9_left 0 = .ok (.iload_n 1, 1) := by decide +kernel
theorem dX9_left_1 : decode cX9_left 1 = .ok (.invokestatic 233, 3) := by decide +kernel
theorem dX9_left_4 : decode cX9_left 4 = .ok (.ifCond .ne 5, 3) := by decide +kernel
theorem dX9_left_7 : decode cX9_left 7 = .ok (.iconst (-1), 1) := by decide +kernel
theorem dX9_left_8 : decode cX9_left 8 = .ok (.ireturn, 1) := by decide +kernel
theorem dX9_left_9 : decode cX9_left 9 = .ok (.aload_n 0, 1) := by decide +kernel
theorem dX9_left_10 : decode cX9_left 10 = .ok (.invokevirtual 188, 3) := by decide +kernel
theorem dX9_left_13 : decode cX9_left 13 = .ok (.ifCond .eq 13, 3) := by decide +kernel
theorem dX9_left_16 : decode cX9_left 16 = .ok (.sipush 1000, 3) := by decide +kernel
theorem dX9_left_19 : decode cX9_left 19 = .ok (.aload_n 0, 1) := by decide +kernel
theorem dX9_left_20 : decode cX9_left 20 = .ok (.iconst 4, 1) := by decide +kernel
theorem dX9_left_21 : decode cX9_left 21 = .ok (.invokevirtual 239, 3) := by decide +kernel
theorem dX9_left_24 : decode cX9_left 24 = .ok (.imul, 1) := by decide +kernel
theorem dX9_left_25 : decode cX9_left 25 = .ok (.ireturn, 1) := by decide +kernel
theorem dX9_left_26 : decode cX9_left 26 = .ok (.aload_n 0, 1) := by decide +kernel
theorem dX9_left_27 : decode cX9_left 27 = .ok (.iload_n 1, 1) := by decide +kernel
theorem dX9_left_28 : decode cX9_left 28 = .ok (.invokevirtual 230, 3) := by decide +kernel
theorem dX9_left_31 : decode cX9_left 31 = .ok (.istore_n 2, 1) := by decide +kernel
theorem dX9_left_32 : decode cX9_left 32 = .ok (.aload_n 0, 1) := by decide +kernel
theorem dX9_left_33 : decode cX9_left 33 = .ok (.aload_n 0, 1) := by decide +kernel
theorem dX9_left_34 : decode cX9_left 34 = .ok (.aload_n 0, 1) := by decide +kernel
theorem dX9_left_35 : decode cX9_left 35 = .ok (.invokevirtual 192, 3) := by decide +kernel
theorem dX9_left_38 : decode cX9_left 38 = .ok (.iload_n 2, 1) := by decide +kernel
theorem dX9_left_39 : decode cX9_left 39 = .ok (.invokevirtual 208, 3) := by decide +kernel
theorem dX9_left_42 : decode cX9_left 42 = .ok (.aload_n 0, 1) := by decide +kernel
theorem dX9_left_43 : decode cX9_left 43 = .ok (.getfield 41, 3) := by decide +kernel
theorem dX9_left_46 : decode cX9_left 46 = .ok (.iconst 0, 1) := by decide +kernel
theorem dX9_left_47 : decode cX9_left 47 = .ok (.iaload, 1) := by decide +kernel
theorem dX9_left_48 : decode cX9_left 48 = .ok (.iconst 0, 1) := by decide +kernel
theorem dX9_left_49 : decode cX9_left 49 = .ok (.invokevirtual 211, 3) := by decide +kernel
theorem dX9_left_52 : decode cX9_left 52 = .ok (.ireturn, 1) := by decide +kernel
theorem dX9_choice_0 : decode cX9_choice 0 = .ok (.iload_n 1, 1) := by decide +kernel
theorem dX9_choice_1 : decode cX9_choice 1 = .ok (.invokestatic 233, 3) := by decide +kernel
theorem dX9_choice_4 : decode cX9_choice 4 = .ok (.ifCond .ne 7, 3) := by decide +kernel
theorem dX9_choice_7 : decode cX9_choice 7 = .ok (.iconst (-1), 1) := by decide +kernel
theorem dX9_choice_8 : decode cX9_choice 8 = .ok (.goto 20, 3) := by decide +kernel
theorem dX9_choice_11 : decode cX9_choice 11 = .ok (.aload_n 0, 1) := by decide +kernel
theorem dX9_choice_12 : decode cX9_choice 12 = .ok (.invokevirtual 188, 3) := by decide +kernel
theorem dX9_choice_15 : decode cX9_choice 15 = .ok (.ifCond .eq 8, 3) := by decide +kernel
theorem dX9_choice_18 : decode cX9_choice 18 = .ok (.bipush 6, 2) := by decide +kernel
theorem dX9_choice_20 : decode cX9_choice 20 = .ok (.goto 8, 3) := by decide +kernel
theorem dX9_choice_23 : decode cX9_choice 23 = .ok (.aload_n 0, 1) := by decide +kernel
theorem dX9_choice_24 : decode cX9_choice 24 = .ok (.iload_n 1, 1) := by decide +kernel
theorem dX9_choice_25 : decode cX9_choice 25 = .ok (.invokevirtual 230, 3) := by decide +kernel
theorem dX9_choice_28 : decode cX9_choice 28 = .ok (.ireturn, 1) := by decide +kernel
theorem dX9_brings_0 : decode cX9_brings 0 = .ok (.iload_n 1, 1) := by decide +kernel
theorem dX9_brings_1 : decode cX9_brings 1 = .ok (.iconst 0, 1) := by decide +kernel
theorem dX9_brings_2 : decode cX9_brings 2 = .ok (.bipush 6, 2) := by decide +kernel
theorem dX9_brings_4 : decode cX9_brings 4 = .ok (.invokestatic 103, 3) := by decide +kernel
theorem dX9_brings_7 : decode cX9_brings 7 = .ok (.ifCond .ne 6, 3) := by decide +kernel
theorem dX9_brings_10 : decode cX9_brings 10 = .ok (.ldc 242, 2) := by decide +kernel
theorem dX9_brings_12 : decode cX9_brings 12 = .ok (.ireturn, 1) := by decide +kernel
theorem dX9_brings_13 : decode cX9_brings 13 = .ok (.aload_n 0, 1) := by decide +kernel
theorem dX9_brings_14 : decode cX9_brings 14 = .ok (.invokevirtual 188, 3) := by decide +kernel
theorem dX9_brings_17 : decode cX9_brings 17 = .ok (.ifCond .eq 16, 3) := by decide +kernel
theorem dX9_brings_20 : decode cX9_brings 20 = .ok (.iload_n 1, 1) := by decide +kernel
theorem dX9_brings_21 : decode cX9_brings 21 = .ok (.bipush 6, 2) := by decide +kernel
theorem dX9_brings_23 : decode cX9_brings 23 = .ok (.if_icmp .ne 7, 3) := by decide +kernel
theorem dX9_brings_26 : decode cX9_brings 26 = .ok (.iconst 0, 1) := by decide +kernel
theorem dX9_brings_27 : decode cX9_brings 27 = .ok (.goto 5, 3) := by decide +kernel
theorem dX9_brings_30 : decode cX9_brings 30 = .ok (.ldc 242, 2) := by decide +kernel
theorem dX9_brings_32 : decode cX9_brings 32 = .ok (.ireturn, 1) := by decide +kernel
theorem dX9_brings_33 : decode cX9_brings 33 = .ok (.iload_n 1, 1) := by decide +kernel
theorem dX9_brings_34 : decode cX9_brings 34 = .ok (.bipush 6, 2) := by decide +kernel
theorem dX9_brings_36 : decode cX9_brings 36 = .ok (.if_icmp .ge 27, 3) := by decide +kernel
theorem dX9_brings_39 : decode cX9_brings 39 = .ok (.aload_n 0, 1) := by decide +kernel
theorem dX9_brings_40 : decode cX9_brings 40 = .ok (.getfield 44, 3) := by decide +kernel
theorem dX9_brings_43 : decode cX9_brings 43 = .ok (.iconst 0, 1) := by decide +kernel
theorem dX9_brings_44 : decode cX9_brings 44 = .ok (.baload, 1) := by decide +kernel
theorem dX9_brings_45 : decode cX9_brings 45 = .ok (.ifCond .ne 15, 3) := by decide +kernel
theorem dX9_brings_48 : decode cX9_brings 48 = .ok (.aload_n 0, 1) := by decide +kernel
theorem dX9_brings_49 : decode cX9_brings 49 = .ok (.aload_n 0, 1) := by decide +kernel
theorem dX9_brings_50 : decode cX9_brings 50 = .ok (.invokevirtual 192, 3) := by decide +kernel
theorem dX9_brings_53 : decode cX9_brings 53 = .ok (.iload_n 1, 1) := by decide +kernel
theorem dX9_brings_54 : decode cX9_brings 54 = .ok (.invokevirtual 215, 3) := by decide +kernel
theorem dX9_brings_57 : decode cX9_brings 57 = .ok (.ifCond .ne 6, 3) := by decide +kernel
theorem dX9_brings_60 : decode cX9_brings 60 = .ok (.ldc 242, 2) := by decide +kernel
theorem dX9_brings_62 : decode cX9_brings 62 = .ok (.ireturn, 1) := by decide +kernel
theorem dX9_brings_63 : decode cX9_brings 63 = .ok (.aload_n 0, 1) := by decide +kernel
theorem dX9_brings_64 : decode cX9_brings 64 = .ok (.iconst 4, 1) := by decide +kernel
theorem dX9_brings_65 : decode cX9_brings 65 = .ok (.aload_n 0, 1) := by decide +kernel
theorem dX9_brings_66 : decode cX9_brings 66 = .ok (.getfield 41, 3) := by decide +kernel
theorem dX9_brings_69 : decode cX9_brings 69 = .ok (.iconst 0, 1) := by decide +kernel
theorem dX9_brings_70 : decode cX9_brings 70 = .ok (.iaload, 1) := by decide +kernel
theorem dX9_brings_71 : decode cX9_brings 71 = .ok (.iconst 1, 1) := by decide +kernel
theorem dX9_brings_72 : decode cX9_brings 72 = .ok (.iadd, 1) := by decide +kernel
theorem dX9_brings_73 : decode cX9_brings 73 = .ok (.invokevirtual 227, 3) := by decide +kernel
theorem dX9_brings_76 : decode cX9_brings 76 = .ok (.aload_n 0, 1) := by decide +kernel
theorem dX9_brings_77 : decode cX9_brings 77 = .ok (.aload_n 0, 1) := by decide +kernel
theorem dX9_brings_78 : decode cX9_brings 78 = .ok (.invokevirtual 192, 3) := by decide +kernel
theorem dX9_brings_81 : decode cX9_brings 81 = .ok (.iload_n 1, 1) := by decide +kernel
theorem dX9_brings_82 : decode cX9_brings 82 = .ok (.aload_n 0, 1) := by decide +kernel
theorem dX9_brings_83 : decode cX9_brings 83 = .ok (.getfield 41, 3) := by decide +kernel
theorem dX9_brings_86 : decode cX9_brings 86 = .ok (.iconst 0, 1) := by decide +kernel
theorem dX9_brings_87 : decode cX9_brings 87 = .ok (.iaload, 1) := by decide +kernel
theorem dX9_brings_88 : decode cX9_brings 88 = .ok (.invokevirtual 218, 3) := by decide +kernel
theorem dX9_brings_91 : decode cX9_brings 91 = .ok (.ireturn, 1) := by decide +kernel
theorem dX9_play_0 : decode cX9_play 0 = .ok (.iload_n 1, 1) := by decide +kernel
theorem dX9_play_1 : decode cX9_play 1 = .ok (.invokestatic 233, 3) := by decide +kernel
theorem dX9_play_4 : decode cX9_play 4 = .ok (.ifCond .ne 5, 3) := by decide +kernel
theorem dX9_play_7 : decode cX9_play 7 = .ok (.iconst (-1), 1) := by decide +kernel
theorem dX9_play_8 : decode cX9_play 8 = .ok (.ireturn, 1) := by decide +kernel
theorem dX9_play_9 : decode cX9_play 9 = .ok (.iconst 0, 1) := by decide +kernel
theorem dX9_play_10 : decode cX9_play 10 = .ok (.istore_n 2, 1) := by decide +kernel
theorem dX9_play_11 : decode cX9_play 11 = .ok (.aload_n 0, 1) := by decide +kernel
theorem dX9_play_12 : decode cX9_play 12 = .ok (.invokevirtual 188, 3) := by decide +kernel
theorem dX9_play_15 : decode cX9_play 15 = .ok (.ifCond .ne 54, 3) := by decide +kernel
theorem dX9_play_18 : decode cX9_play 18 = .ok (.aload_n 0, 1) := by decide +kernel
theorem dX9_play_19 : decode cX9_play 19 = .ok (.iload_n 1, 1) := by decide +kernel
theorem dX9_play_20 : decode cX9_play 20 = .ok (.invokevirtual 230, 3) := by decide +kernel
theorem dX9_play_23 : decode cX9_play 23 = .ok (.istore_n 3, 1) := by decide +kernel
theorem dX9_play_24 : decode cX9_play 24 = .ok (.iload_n 3, 1) := by decide +kernel
theorem dX9_play_25 : decode cX9_play 25 = .ok (.bipush 6, 2) := by decide +kernel
theorem dX9_play_27 : decode cX9_play 27 = .ok (.if_icmp .ne 7, 3) := by decide +kernel
theorem dX9_play_30 : decode cX9_play 30 = .ok (.iconst 0, 1) := by decide +kernel
theorem dX9_play_31 : decode cX9_play 31 = .ok (.goto 23, 3) := by decide +kernel
theorem dX9_play_34 : decode cX9_play 34 = .ok (.iload_n 3, 1) := by decide +kernel
theorem dX9_play_35 : decode cX9_play 35 = .ok (.iconst 3, 1) := by decide +kernel
theorem dX9_play_36 : decode cX9_play 36 = .ok (.if_icmp .ge 11, 3) := by decide +kernel
theorem dX9_play_39 : decode cX9_play 39 = .ok (.aload_n 0, 1) := by decide +kernel
theorem dX9_play_40 : decode cX9_play 40 = .ok (.iload_n 3, 1) := by decide +kernel
theorem dX9_play_41 : decode cX9_play 41 = .ok (.invokevirtual 243, 3) := by decide +kernel
end
section
theorem dX9_play_44 : decode cX9_play 44 = .ok (.goto 10, 3) := by decide +kernel
theorem dX9_play_47 : decode cX9_play 47 = .ok (.aload_n 0, 1) := by decide +kernel
theorem dX9_play_48 : decode cX9_play 48 = .ok (.iload_n 3, 1) := by decide +kernel
theorem dX9_play_49 : decode cX9_play 49 = .ok (.iconst 3, 1) := by decide +kernel
theorem dX9_play_50 : decode cX9_play 50 = .ok (.isub, 1) := by decide +kernel
theorem dX9_play_51 : decode cX9_play 51 = .ok (.invokevirtual 246, 3) := by decide +kernel
theorem dX9_play_54 : decode cX9_play 54 = .ok (.istore 4, 2) := by decide +kernel
theorem dX9_play_56 : decode cX9_play 56 = .ok (.iload_n 2, 1) := by decide +kernel
theorem dX9_play_57 : decode cX9_play 57 = .ok (.iload 4, 2) := by decide +kernel
theorem dX9_play_59 : decode cX9_play 59 = .ok (.iadd, 1) := by decide +kernel
theorem dX9_play_60 : decode cX9_play 60 = .ok (.istore_n 2, 1) := by decide +kernel
theorem dX9_play_61 : decode cX9_play 61 = .ok (.aload_n 0, 1) := by decide +kernel
theorem dX9_play_62 : decode cX9_play 62 = .ok (.invokevirtual 196, 3) := by decide +kernel
theorem dX9_play_65 : decode cX9_play 65 = .ok (.pop, 1) := by decide +kernel
theorem dX9_play_66 : decode cX9_play 66 = .ok (.goto (-55), 3) := by decide +kernel
theorem dX9_play_69 : decode cX9_play 69 = .ok (.iload_n 2, 1) := by decide +kernel
theorem dX9_play_70 : decode cX9_play 70 = .ok (.ireturn, 1) := by decide +kernel
theorem dX9_age_0 : decode cX9_age 0 = .ok (.iconst 3, 1) := by decide +kernel
theorem dX9_age_1 : decode cX9_age 1 = .ok (.istore 4, 2) := by decide +kernel
theorem dX9_age_3 : decode cX9_age 3 = .ok (.iload 4, 2) := by decide +kernel
theorem dX9_age_5 : decode cX9_age 5 = .ok (.ifCond .lt 169, 3) := by decide +kernel
theorem dX9_age_8 : decode cX9_age 8 = .ok (.aload_n 0, 1) := by decide +kernel
theorem dX9_age_9 : decode cX9_age 9 = .ok (.iload_n 1, 1) := by decide +kernel
theorem dX9_age_10 : decode cX9_age 10 = .ok (.iload 4, 2) := by decide +kernel
theorem dX9_age_12 : decode cX9_age 12 = .ok (.iload_n 2, 1) := by decide +kernel
theorem dX9_age_13 : decode cX9_age 13 = .ok (.ifCond .eq 12, 3) := by decide +kernel
theorem dX9_age_16 : decode cX9_age 16 = .ok (.aload_n 0, 1) := by decide +kernel
theorem dX9_age_17 : decode cX9_age 17 = .ok (.getfield 32, 3) := by decide +kernel
theorem dX9_age_20 : decode cX9_age 20 = .ok (.iload_n 1, 1) := by decide +kernel
theorem dX9_age_21 : decode cX9_age 21 = .ok (.iaload, 1) := by decide +kernel
theorem dX9_age_22 : decode cX9_age 22 = .ok (.goto 4, 3) := by decide +kernel
theorem dX9_age_25 : decode cX9_age 25 = .ok (.iconst 0, 1) := by decide +kernel
theorem dX9_age_26 : decode cX9_age 26 = .ok (.iload_n 3, 1) := by decide +kernel
theorem dX9_age_27 : decode cX9_age 27 = .ok (.invokevirtual 171, 3) := by decide +kernel
theorem dX9_age_30 : decode cX9_age 30 = .ok (.istore 5, 2) := by decide +kernel
theorem dX9_age_32 : decode cX9_age 32 = .ok (.aload_n 0, 1) := by decide +kernel
theorem dX9_age_33 : decode cX9_age 33 = .ok (.getfield 63, 3) := by decide +kernel
theorem dX9_age_36 : decode cX9_age 36 = .ok (.iload_n 1, 1) := by decide +kernel
theorem dX9_age_37 : decode cX9_age 37 = .ok (.baload, 1) := by decide +kernel
theorem dX9_age_38 : decode cX9_age 38 = .ok (.ifCond .ne 9, 3) := by decide +kernel
theorem dX9_age_41 : decode cX9_age 41 = .ok (.iload 4, 2) := by decide +kernel
theorem dX9_age_43 : decode cX9_age 43 = .ok (.iconst 3, 1) := by decide +kernel
theorem dX9_age_44 : decode cX9_age 44 = .ok (.if_icmp .ne 7, 3) := by decide +kernel
theorem dX9_age_47 : decode cX9_age 47 = .ok (.iconst 0, 1) := by decide +kernel
theorem dX9_age_48 : decode cX9_age 48 = .ok (.goto 23, 3) := by decide +kernel
theorem dX9_age_51 : decode cX9_age 51 = .ok (.aload_n 0, 1) := by decide +kernel
theorem dX9_age_52 : decode cX9_age 52 = .ok (.getfield 26, 3) := by decide +kernel
theorem dX9_age_55 : decode cX9_age 55 = .ok (.bipush 14, 2) := by decide +kernel
theorem dX9_age_57 : decode cX9_age 57 = .ok (.aload_n 0, 1) := by decide +kernel
theorem dX9_age_58 : decode cX9_age 58 = .ok (.getfield 29, 3) := by decide +kernel
theorem dX9_age_61 : decode cX9_age 61 = .ok (.iload_n 1, 1) := by decide +kernel
theorem dX9_age_62 : decode cX9_age 62 = .ok (.iaload, 1) := by decide +kernel
theorem dX9_age_63 : decode cX9_age 63 = .ok (.imul, 1) := by decide +kernel
theorem dX9_age_64 : decode cX9_age 64 = .ok (.bipush 7, 2) := by decide +kernel
theorem dX9_age_66 : decode cX9_age 66 = .ok (.iadd, 1) := by decide +kernel
theorem dX9_age_67 : decode cX9_age 67 = .ok (.iload 4, 2) := by decide +kernel
theorem dX9_age_69 : decode cX9_age 69 = .ok (.iadd, 1) := by decide +kernel
theorem dX9_age_70 : decode cX9_age 70 = .ok (.iaload, 1) := by decide +kernel
theorem dX9_age_71 : decode cX9_age 71 = .ok (.istore 6, 2) := by decide +kernel
theorem dX9_age_73 : decode cX9_age 73 = .ok (.iload 6, 2) := by decide +kernel
theorem dX9_age_75 : decode cX9_age 75 = .ok (.ifCond .ne 7, 3) := by decide +kernel
theorem dX9_age_78 : decode cX9_age 78 = .ok (.iconst 0, 1) := by decide +kernel
theorem dX9_age_79 : decode cX9_age 79 = .ok (.goto 29, 3) := by decide +kernel
theorem dX9_age_82 : decode cX9_age 82 = .ok (.iload 6, 2) := by decide +kernel
theorem dX9_age_84 : decode cX9_age 84 = .ok (.aload_n 0, 1) := by decide +kernel
theorem dX9_age_85 : decode cX9_age 85 = .ok (.iload_n 3, 1) := by decide +kernel
theorem dX9_age_86 : decode cX9_age 86 = .ok (.invokevirtual 161, 3) := by decide +kernel
theorem dX9_age_89 : decode cX9_age 89 = .ok (.iadd, 1) := by decide +kernel
theorem dX9_age_90 : decode cX9_age 90 = .ok (.bipush 10, 2) := by decide +kernel
theorem dX9_age_92 : decode cX9_age 92 = .ok (.if_icmp .le 8, 3) := by decide +kernel
theorem dX9_age_95 : decode cX9_age 95 = .ok (.bipush 10, 2) := by decide +kernel
theorem dX9_age_97 : decode cX9_age 97 = .ok (.goto 11, 3) := by decide +kernel
theorem dX9_age_100 : decode cX9_age 100 = .ok (.iload 6, 2) := by decide +kernel
theorem dX9_age_102 : decode cX9_age 102 = .ok (.aload_n 0, 1) := by decide +kernel
theorem dX9_age_103 : decode cX9_age 103 = .ok (.iload_n 3, 1) := by decide +kernel
theorem dX9_age_104 : decode cX9_age 104 = .ok (.invokevirtual 161, 3) := by decide +kernel
theorem dX9_age_107 : decode cX9_age 107 = .ok (.iadd, 1) := by decide +kernel
theorem dX9_age_108 : decode cX9_age 108 = .ok (.istore 7, 2) := by decide +kernel
theorem dX9_age_110 : decode cX9_age 110 = .ok (.iload_n 2, 1) := by decide +kernel
theorem dX9_age_111 : decode cX9_age 111 = .ok (.ifCond .eq 8, 3) := by decide +kernel
theorem dX9_age_114 : decode cX9_age 114 = .ok (.iload 5, 2) := by decide +kernel
theorem dX9_age_116 : decode cX9_age 116 = .ok (.goto 5, 3) := by decide +kernel
theorem dX9_age_119 : decode cX9_age 119 = .ok (.iload 7, 2) := by decide +kernel
theorem dX9_age_121 : decode cX9_age 121 = .ok (.istore 8, 2) := by decide +kernel
theorem dX9_age_123 : decode cX9_age 123 = .ok (.iload 4, 2) := by decide +kernel
theorem dX9_age_125 : decode cX9_age 125 = .ok (.iconst 3, 1) := by decide +kernel
theorem dX9_age_126 : decode cX9_age 126 = .ok (.if_icmp .ge 26, 3) := by decide +kernel
theorem dX9_age_129 : decode cX9_age 129 = .ok (.aload_n 0, 1) := by decide +kernel
theorem dX9_age_130 : decode cX9_age 130 = .ok (.getfield 96, 3) := by decide +kernel
theorem dX9_age_133 : decode cX9_age 133 = .ok (.iload 4, 2) := by decide +kernel
theorem dX9_age_135 : decode cX9_age 135 = .ok (.iconst 1, 1) := by decide +kernel
theorem dX9_age_136 : decode cX9_age 136 = .ok (.iadd, 1) := by decide +kernel
theorem dX9_age_137 : decode cX9_age 137 = .ok (.dup2, 1) := by decide +kernel
theorem dX9_age_138 : decode cX9_age 138 = .ok (.laload, 1) := by decide +kernel
theorem dX9_age_139 : decode cX9_age 139 = .ok (.aload_n 0, 1) := by decide +kernel
theorem dX9_age_140 : decode cX9_age 140 = .ok (.getfield 96, 3) := by decide +kernel
theorem dX9_age_143 : decode cX9_age 143 = .ok (.iload 4, 2) := by decide +kernel
theorem dX9_age_145 : decode cX9_age 145 = .ok (.laload, 1) := by decide +kernel
theorem dX9_age_146 : decode cX9_age 146 = .ok (.iload 8, 2) := by decide +kernel
theorem dX9_age_148 : decode cX9_age 148 = .ok (.i2l, 1) := by decide +kernel
theorem dX9_age_149 : decode cX9_age 149 = .ok (.lmul, 1) := by decide +kernel
theorem dX9_age_150 : decode cX9_age 150 = .ok (.ladd, 1) := by decide +kernel
theorem dX9_age_151 : decode cX9_age 151 = .ok (.lastore, 1) := by decide +kernel
theorem dX9_age_152 : decode cX9_age 152 = .ok (.aload_n 0, 1) := by decide +kernel
theorem dX9_age_153 : decode cX9_age 153 = .ok (.getfield 96, 3) := by decide +kernel
theorem dX9_age_156 : decode cX9_age 156 = .ok (.iload 4, 2) := by decide +kernel
theorem dX9_age_158 : decode cX9_age 158 = .ok (.dup2, 1) := by decide +kernel
theorem dX9_age_159 : decode cX9_age 159 = .ok (.laload, 1) := by decide +kernel
theorem dX9_age_160 : decode cX9_age 160 = .ok (.bipush 10, 2) := by decide +kernel
theorem dX9_age_162 : decode cX9_age 162 = .ok (.iload 8, 2) := by decide +kernel
theorem dX9_age_164 : decode cX9_age 164 = .ok (.isub, 1) := by decide +kernel
theorem dX9_age_165 : decode cX9_age 165 = .ok (.i2l, 1) := by decide +kernel
theorem dX9_age_166 : decode cX9_age 166 = .ok (.lmul, 1) := by decide +kernel
theorem dX9_age_167 : decode cX9_age 167 = .ok (.lastore, 1) := by decide +kernel
theorem dX9_age_168 : decode cX9_age 168 = .ok (.iinc 4 (-1), 3) := by decide +kernel
theorem dX9_age_171 : decode cX9_age 171 = .ok (.goto (-168), 3) := by decide +kernel
theorem dX9_age_174 : decode cX9_age 174 = .ok (.return_, 1) := by decide +kernel
theorem dX9_gainOf_0 : decode cX9_gainOf 0 = .ok (.lconst 1, 1) := by decide +kernel
theorem dX9_gainOf_1 : decode cX9_gainOf 1 = .ok (.lstore 4, 2) := by decide +kernel
theorem dX9_gainOf_3 : decode cX9_gainOf 3 = .ok (.iconst 0, 1) := by decide +kernel
theorem dX9_gainOf_4 : decode cX9_gainOf 4 = .ok (.istore 6, 2) := by decide +kernel
theorem dX9_gainOf_6 : decode cX9_gainOf 6 = .ok (.iload 6, 2) := by decide +kernel
theorem dX9_gainOf_8 : decode cX9_gainOf 8 = .ok (.iconst 4, 1) := by decide +kernel
theorem dX9_gainOf_9 : decode cX9_gainOf 9 = .ok (.if_icmp .ge 32, 3) := by decide +kernel
theorem dX9_gainOf_12 : decode cX9_gainOf 12 = .ok (.aload_n 0, 1) := by decide +kernel
theorem dX9_gainOf_13 : decode cX9_gainOf 13 = .ok (.getfield 96, 3) := by decide +kernel
theorem dX9_gainOf_16 : decode cX9_gainOf 16 = .ok (.iload 6, 2) := by decide +kernel
theorem dX9_gainOf_18 : decode cX9_gainOf 18 = .ok (.iload 6, 2) := by decide +kernel
theorem dX9_gainOf_20 : decode cX9_gainOf 20 = .ok (.aload_n 0, 1) := by decide +kernel
theorem dX9_gainOf_21 : decode cX9_gainOf 21 = .ok (.getfield 57, 3) := by decide +kernel
theorem dX9_gainOf_24 : decode cX9_gainOf 24 = .ok (.iload_n 1, 1) := by decide +kernel
theorem dX9_gainOf_25 : decode cX9_gainOf 25 = .ok (.iaload, 1) := by decide +kernel
theorem dX9_gainOf_26 : decode cX9_gainOf 26 = .ok (.if_icmp .ne 7, 3) := by decide +kernel
theorem dX9_gainOf_29 : decode cX9_gainOf 29 = .ok (.lconst 1, 1) := by decide +kernel
theorem dX9_gainOf_30 : decode cX9_gainOf 30 = .ok (.goto 4, 3) := by decide +kernel
theorem dX9_gainOf_33 : decode cX9_gainOf 33 = .ok (.lconst 0, 1) := by decide +kernel
theorem dX9_gainOf_34 : decode cX9_gainOf 34 = .ok (.lastore, 1) := by decide +kernel
theorem dX9_gainOf_35 : decode cX9_gainOf 35 = .ok (.iinc 6 1, 3) := by decide +kernel
theorem dX9_gainOf_38 : decode cX9_gainOf 38 = .ok (.goto (-32), 3) := by decide +kernel
theorem dX9_gainOf_41 : decode cX9_gainOf 41 = .ok (.aload_n 0, 1) := by decide +kernel
theorem dX9_gainOf_42 : decode cX9_gainOf 42 = .ok (.getfield 41, 3) := by decide +kernel
theorem dX9_gainOf_45 : decode cX9_gainOf 45 = .ok (.iconst 0, 1) := by decide +kernel
theorem dX9_gainOf_46 : decode cX9_gainOf 46 = .ok (.iaload, 1) := by decide +kernel
theorem dX9_gainOf_47 : decode cX9_gainOf 47 = .ok (.istore 6, 2) := by decide +kernel
theorem dX9_gainOf_49 : decode cX9_gainOf 49 = .ok (.iload 6, 2) := by decide +kernel
theorem dX9_gainOf_51 : decode cX9_gainOf 51 = .ok (.iload_n 3, 1) := by decide +kernel
theorem dX9_gainOf_52 : decode cX9_gainOf 52 = .ok (.if_icmp .ge 41, 3) := by decide +kernel
theorem dX9_gainOf_55 : decode cX9_gainOf 55 = .ok (.aload_n 0, 1) := by decide +kernel
theorem dX9_gainOf_56 : decode cX9_gainOf 56 = .ok (.iload_n 1, 1) := by decide +kernel
theorem dX9_gainOf_57 : decode cX9_gainOf 57 = .ok (.iload_n 2, 1) := by decide +kernel
theorem dX9_gainOf_58 : decode cX9_gainOf 58 = .ok (.bipush 8, 2) := by decide +kernel
theorem dX9_gainOf_60 : decode cX9_gainOf 60 = .ok (.if_icmp .ge 13, 3) := by decide +kernel
theorem dX9_gainOf_63 : decode cX9_gainOf 63 = .ok (.iload 6, 2) := by decide +kernel
theorem dX9_gainOf_65 : decode cX9_gainOf 65 = .ok (.iload_n 2, 1) := by decide +kernel
theorem dX9_gainOf_66 : decode cX9_gainOf 66 = .ok (.if_icmp .ge 7, 3) := by decide +kernel
theorem dX9_gainOf_69 : decode cX9_gainOf 69 = .ok (.iconst 1, 1) := by decide +kernel
theorem dX9_gainOf_70 : decode cX9_gainOf 70 = .ok (.goto 4, 3) := by decide +kernel
theorem dX9_gainOf_73 : decode cX9_gainOf 73 = .ok (.iconst 0, 1) := by decide +kernel
theorem dX9_gainOf_74 : decode cX9_gainOf 74 = .ok (.iload 6, 2) := by decide +kernel
theorem dX9_gainOf_76 : decode cX9_gainOf 76 = .ok (.invokevirtual 249, 3) := by decide +kernel
theorem dX9_gainOf_79 : decode cX9_gainOf 79 = .ok (.lload 4, 2) := by decide +kernel
theorem dX9_gainOf_81 : decode cX9_gainOf 81 = .ok (.ldc2_w 253, 3) := by decide +kernel
theorem dX9_gainOf_84 : decode cX9_gainOf 84 = .ok (.lmul, 1) := by decide +kernel
theorem dX9_gainOf_85 : decode cX9_gainOf 85 = .ok (.lstore 4, 2) := by decide +kernel
theorem dX9_gainOf_87 : decode cX9_gainOf 87 = .ok (.iinc 6 1, 3) := by decide +kernel
theorem dX9_gainOf_90 : decode cX9_gainOf 90 = .ok (.goto (-41), 3) := by decide +kernel
theorem dX9_gainOf_93 : decode cX9_gainOf 93 = .ok (.lconst 0, 1) := by decide +kernel
theorem dX9_gainOf_94 : decode cX9_gainOf 94 = .ok (.lstore 6, 2) := by decide +kernel
theorem dX9_gainOf_96 : decode cX9_gainOf 96 = .ok (.iconst 0, 1) := by decide +kernel
theorem dX9_gainOf_97 : decode cX9_gainOf 97 = .ok (.istore 8, 2) := by decide +kernel
theorem dX9_gainOf_99 : decode cX9_gainOf 99 = .ok (.iload 8, 2) := by decide +kernel
theorem dX9_gainOf_101 : decode cX9_gainOf 101 = .ok (.iconst 4, 1) := by decide +kernel
theorem dX9_gainOf_102 : decode cX9_gainOf 102 = .ok (.if_icmp .ge 30, 3) := by decide +kernel
theorem dX9_gainOf_105 : decode cX9_gainOf 105 = .ok (.lload 6, 2) := by decide +kernel
theorem dX9_gainOf_107 : decode cX9_gainOf 107 = .ok (.aload_n 0, 1) := by decide +kernel
theorem dX9_gainOf_108 : decode cX9_gainOf 108 = .ok (.getfield 96, 3) := by decide +kernel
theorem dX9_gainOf_111 : decode cX9_gainOf 111 = .ok (.iload 8, 2) := by decide +kernel
theorem dX9_gainOf_113 : decode cX9_gainOf 113 = .ok (.laload, 1) := by decide +kernel
theorem dX9_gainOf_114 : decode cX9_gainOf 114 = .ok (.aload_n 0, 1) := by decide +kernel
theorem dX9_gainOf_115 : decode cX9_gainOf 115 = .ok (.iload_n 1, 1) := by decide +kernel
theorem dX9_gainOf_116 : decode cX9_gainOf 116 = .ok (.iload 8, 2) := by decide +kernel
theorem dX9_gainOf_118 : decode cX9_gainOf 118 = .ok (.invokevirtual 168, 3) := by decide +kernel
theorem dX9_gainOf_121 : decode cX9_gainOf 121 = .ok (.i2l, 1) := by decide +kernel
theorem dX9_gainOf_122 : decode cX9_gainOf 122 = .ok (.lmul, 1) := by decide +kernel
theorem dX9_gainOf_123 : decode cX9_gainOf 123 = .ok (.ladd, 1) := by decide +kernel
theorem dX9_gainOf_124 : decode cX9_gainOf 124 = .ok (.lstore 6, 2) := by decide +kernel
theorem dX9_gainOf_126 : decode cX9_gainOf 126 = .ok (.iinc 8 1, 3) := by decide +kernel
theorem dX9_gainOf_129 : decode cX9_gainOf 129 = .ok (.goto (-30), 3) := by decide +kernel
theorem dX9_gainOf_132 : decode cX9_gainOf 132 = .ok (.lload 6, 2) := by decide +kernel
theorem dX9_gainOf_134 : decode cX9_gainOf 134 = .ok (.ldc2_w 203, 3) := by decide +kernel
theorem dX9_gainOf_137 : decode cX9_gainOf 137 = .ok (.lmul, 1) := by decide +kernel
theorem dX9_gainOf_138 : decode cX9_gainOf 138 = .ok (.lload 4, 2) := by decide +kernel
theorem dX9_gainOf_140 : decode cX9_gainOf 140 = .ok (.ldiv, 1) := by decide +kernel
theorem dX9_gainOf_141 : decode cX9_gainOf 141 = .ok (.l2i, 1) := by decide +kernel
theorem dX9_gainOf_142 : decode cX9_gainOf 142 = .ok (.ireturn, 1) := by decide +kernel
theorem dX9_firstWeek_0 : decode cX9_firstWeek 0 = .ok (.aload_n 0, 1) := by decide +kernel
theorem dX9_firstWeek_1 : decode cX9_firstWeek 1 = .ok (.getfield 41, 3) := by decide +kernel
theorem dX9_firstWeek_4 : decode cX9_firstWeek 4 = .ok (.iconst 0, 1) := by decide +kernel
theorem dX9_firstWeek_5 : decode cX9_firstWeek 5 = .ok (.iaload, 1) := by decide +kernel
theorem dX9_firstWeek_6 : decode cX9_firstWeek 6 = .ok (.aload_n 0, 1) := by decide +kernel
theorem dX9_firstWeek_7 : decode cX9_firstWeek 7 = .ok (.getfield 44, 3) := by decide +kernel
theorem dX9_firstWeek_10 : decode cX9_firstWeek 10 = .ok (.iconst 0, 1) := by decide +kernel
theorem dX9_firstWeek_11 : decode cX9_firstWeek 11 = .ok (.baload, 1) := by decide +kernel
theorem dX9_firstWeek_12 : decode cX9_firstWeek 12 = .ok (.ifCond .eq 7, 3) := by decide +kernel
theorem dX9_firstWeek_15 : decode cX9_firstWeek 15 = .ok (.iconst 1, 1) := by decide +kernel
theorem dX9_firstWeek_16 : decode cX9_firstWeek 16 = .ok (.goto 4, 3) := by decide +kernel
theorem dX9_firstWeek_19 : decode cX9_firstWeek 19 = .ok (.iconst 0, 1) := by decide +kernel
theorem dX9_firstWeek_20 : decode cX9_firstWeek 20 = .ok (.iadd, 1) := by decide +kernel
theorem dX9_firstWeek_21 : decode cX9_firstWeek 21 = .ok (.ireturn, 1) := by decide +kernel
theorem dX9_mayBlind_0 : decode cX9_mayBlind 0 = .ok (.iconst 0, 1) := by decide +kernel
theorem dX9_mayBlind_1 : decode cX9_mayBlind 1 = .ok (.istore_n 2, 1) := by decide +kernel
theorem dX9_mayBlind_2 : decode cX9_mayBlind 2 = .ok (.iconst 0, 1) := by decide +kernel
theorem dX9_mayBlind_3 : decode cX9_mayBlind 3 = .ok (.istore_n 3, 1) := by decide +kernel
theorem dX9_mayBlind_4 : decode cX9_mayBlind 4 = .ok (.iload_n 3, 1) := by decide +kernel
theorem dX9_mayBlind_5 : decode cX9_mayBlind 5 = .ok (.aload_n 0, 1) := by decide +kernel
theorem dX9_mayBlind_6 : decode cX9_mayBlind 6 = .ok (.getfield 17, 3) := by decide +kernel
theorem dX9_mayBlind_9 : decode cX9_mayBlind 9 = .ok (.iconst 0, 1) := by decide +kernel
theorem dX9_mayBlind_10 : decode cX9_mayBlind 10 = .ok (.iaload, 1) := by decide +kernel
theorem dX9_mayBlind_11 : decode cX9_mayBlind 11 = .ok (.if_icmp .ge 46, 3) := by decide +kernel
theorem dX9_mayBlind_14 : decode cX9_mayBlind 14 = .ok (.iload_n 2, 1) := by decide +kernel
theorem dX9_mayBlind_15 : decode cX9_mayBlind 15 = .ok (.iload_n 3, 1) := by decide +kernel
theorem dX9_mayBlind_16 : decode cX9_mayBlind 16 = .ok (.iload_n 1, 1) := by decide +kernel
theorem dX9_mayBlind_17 : decode cX9_mayBlind 17 = .ok (.if_icmp .eq 31, 3) := by decide +kernel
theorem dX9_mayBlind_20 : decode cX9_mayBlind 20 = .ok (.aload_n 0, 1) := by decide +kernel
theorem dX9_mayBlind_21 : decode cX9_mayBlind 21 = .ok (.getfield 93, 3) := by decide +kernel
theorem dX9_mayBlind_24 : decode cX9_mayBlind 24 = .ok (.iload_n 3, 1) := by decide +kernel
theorem dX9_mayBlind_25 : decode cX9_mayBlind 25 = .ok (.iaload, 1) := by decide +kernel
theorem dX9_mayBlind_26 : decode cX9_mayBlind 26 = .ok (.ifCond .le 22, 3) := by decide +kernel
theorem dX9_mayBlind_29 : decode cX9_mayBlind 29 = .ok (.aload_n 0, 1) := by decide +kernel
theorem dX9_mayBlind_30 : decode cX9_mayBlind 30 = .ok (.getfield 93, 3) := by decide +kernel
theorem dX9_mayBlind_33 : decode cX9_mayBlind 33 = .ok (.iload_n 3, 1) := by decide +kernel
theorem dX9_mayBlind_34 : decode cX9_mayBlind 34 = .ok (.iaload, 1) := by decide +kernel
theorem dX9_mayBlind_35 : decode cX9_mayBlind 35 = .ok (.aload_n 0, 1) := by decide +kernel
theorem dX9_mayBlind_36 : decode cX9_mayBlind 36 = .ok (.getfield 32, 3) := by decide +kernel
theorem dX9_mayBlind_39 : decode cX9_mayBlind 39 = .ok (.iload_n 3, 1) := by decide +kernel
theorem dX9_mayBlind_40 : decode cX9_mayBlind 40 = .ok (.iaload, 1) := by decide +kernel
theorem dX9_mayBlind_41 : decode cX9_mayBlind 41 = .ok (.if_icmp .ge 7, 3) := by decide +kernel
theorem dX9_mayBlind_44 : decode cX9_mayBlind 44 = .ok (.iconst 1, 1) := by decide +kernel
theorem dX9_mayBlind_45 : decode cX9_mayBlind 45 = .ok (.goto 4, 3) := by decide +kernel
theorem dX9_mayBlind_48 : decode cX9_mayBlind 48 = .ok (.iconst 0, 1) := by decide +kernel
theorem dX9_mayBlind_49 : decode cX9_mayBlind 49 = .ok (.iadd, 1) := by decide +kernel
theorem dX9_mayBlind_50 : decode cX9_mayBlind 50 = .ok (.istore_n 2, 1) := by decide +kernel
theorem dX9_mayBlind_51 : decode cX9_mayBlind 51 = .ok (.iinc 3 1, 3) := by decide +kernel
theorem dX9_mayBlind_54 : decode cX9_mayBlind 54 = .ok (.goto (-50), 3) := by decide +kernel
theorem dX9_mayBlind_57 : decode cX9_mayBlind 57 = .ok (.aload_n 0, 1) := by decide +kernel
theorem dX9_mayBlind_58 : decode cX9_mayBlind 58 = .ok (.iload_n 1, 1) := by decide +kernel
theorem dX9_mayBlind_59 : decode cX9_mayBlind 59 = .ok (.invokevirtual 164, 3) := by decide +kernel
theorem dX9_mayBlind_62 : decode cX9_mayBlind 62 = .ok (.ifCond .eq 41, 3) := by decide +kernel
theorem dX9_mayBlind_65 : decode cX9_mayBlind 65 = .ok (.aload_n 0, 1) := by decide +kernel
theorem dX9_mayBlind_66 : decode cX9_mayBlind 66 = .ok (.getfield 93, 3) := by decide +kernel
theorem dX9_mayBlind_69 : decode cX9_mayBlind 69 = .ok (.iload_n 1, 1) := by decide +kernel
theorem dX9_mayBlind_70 : decode cX9_mayBlind 70 = .ok (.iaload, 1) := by decide +kernel
theorem dX9_mayBlind_71 : decode cX9_mayBlind 71 = .ok (.ifCond .le 32, 3) := by decide +kernel
theorem dX9_mayBlind_74 : decode cX9_mayBlind 74 = .ok (.aload_n 0, 1) := by decide +kernel
theorem dX9_mayBlind_75 : decode cX9_mayBlind 75 = .ok (.getfield 93, 3) := by decide +kernel
theorem dX9_mayBlind_78 : decode cX9_mayBlind 78 = .ok (.iload_n 1, 1) := by decide +kernel
theorem dX9_mayBlind_79 : decode cX9_mayBlind 79 = .ok (.iaload, 1) := by decide +kernel
theorem dX9_mayBlind_80 : decode cX9_mayBlind 80 = .ok (.aload_n 0, 1) := by decide +kernel
theorem dX9_mayBlind_81 : decode cX9_mayBlind 81 = .ok (.getfield 32, 3) := by decide +kernel
theorem dX9_mayBlind_84 : decode cX9_mayBlind 84 = .ok (.iload_n 1, 1) := by decide +kernel
theorem dX9_mayBlind_85 : decode cX9_mayBlind 85 = .ok (.iaload, 1) := by decide +kernel
theorem dX9_mayBlind_86 : decode cX9_mayBlind 86 = .ok (.if_icmp .lt 13, 3) := by decide +kernel
theorem dX9_mayBlind_89 : decode cX9_mayBlind 89 = .ok (.iload_n 2, 1) := by decide +kernel
theorem dX9_mayBlind_90 : decode cX9_mayBlind 90 = .ok (.aload_n 0, 1) := by decide +kernel
theorem dX9_mayBlind_91 : decode cX9_mayBlind 91 = .ok (.getfield 23, 3) := by decide +kernel
theorem dX9_mayBlind_94 : decode cX9_mayBlind 94 = .ok (.iconst 0, 1) := by decide +kernel
theorem dX9_mayBlind_95 : decode cX9_mayBlind 95 = .ok (.iaload, 1) := by decide +kernel
theorem dX9_mayBlind_96 : decode cX9_mayBlind 96 = .ok (.if_icmp .ge 7, 3) := by decide +kernel
theorem dX9_mayBlind_99 : decode cX9_mayBlind 99 = .ok (.iconst 1, 1) := by decide +kernel
theorem dX9_mayBlind_100 : decode cX9_mayBlind 100 = .ok (.goto 4, 3) := by decide +kernel
theorem dX9_mayBlind_103 : decode cX9_mayBlind 103 = .ok (.iconst 0, 1) := by decide +kernel
theorem dX9_mayBlind_104 : decode cX9_mayBlind 104 = .ok (.ireturn, 1) := by decide +kernel
theorem dX9_findRow_0 : decode cX9_findRow 0 = .ok (.aload_n 0, 1) := by decide +kernel
theorem dX9_findRow_1 : decode cX9_findRow 1 = .ok (.getfield 20, 3) := by decide +kernel
theorem dX9_findRow_4 : decode cX9_findRow 4 = .ok (.iconst 0, 1) := by decide +kernel
theorem dX9_findRow_5 : decode cX9_findRow 5 = .ok (.iaload, 1) := by decide +kernel
theorem dX9_findRow_6 : decode cX9_findRow 6 = .ok (.aload_n 0, 1) := by decide +kernel
theorem dX9_findRow_7 : decode cX9_findRow 7 = .ok (.invokevirtual 255, 3) := by decide +kernel
theorem dX9_findRow_10 : decode cX9_findRow 10 = .ok (.isub, 1) := by decide +kernel
theorem dX9_findRow_11 : decode cX9_findRow 11 = .ok (.istore_n 1, 1) := by decide +kernel
theorem dX9_findRow_12 : decode cX9_findRow 12 = .ok (.iconst 0, 1) := by decide +kernel
theorem dX9_findRow_13 : decode cX9_findRow 13 = .ok (.istore_n 2, 1) := by decide +kernel
theorem dX9_findRow_14 : decode cX9_findRow 14 = .ok (.iload_n 2, 1) := by decide +kernel
theorem dX9_findRow_15 : decode cX9_findRow 15 = .ok (.aload_n 0, 1) := by decide +kernel
theorem dX9_findRow_16 : decode cX9_findRow 16 = .ok (.getfield 17, 3) := by decide +kernel
theorem dX9_findRow_19 : decode cX9_findRow 19 = .ok (.iconst 0, 1) := by decide +kernel
theorem dX9_findRow_20 : decode cX9_findRow 20 = .ok (.iaload, 1) := by decide +kernel
theorem dX9_findRow_21 : decode cX9_findRow 21 = .ok (.if_icmp .ge 127, 3) := by decide +kernel
theorem dX9_findRow_24 : decode cX9_findRow 24 = .ok (.aload_n 0, 1) := by decide +kernel
theorem dX9_findRow_25 : decode cX9_findRow 25 = .ok (.getfield 93, 3) := by decide +kernel
theorem dX9_findRow_28 : decode cX9_findRow 28 = .ok (.iload_n 2, 1) := by decide +kernel
theorem dX9_findRow_29 : decode cX9_findRow 29 = .ok (.aload_n 0, 1) := by decide +kernel
theorem dX9_findRow_30 : decode cX9_findRow 30 = .ok (.getfield 60, 3) := by decide +kernel
theorem dX9_findRow_33 : decode cX9_findRow 33 = .ok (.iload_n 2, 1) := by decide +kernel
theorem dX9_findRow_34 : decode cX9_findRow 34 = .ok (.iaload, 1) := by decide +kernel
theorem dX9_findRow_35 : decode cX9_findRow 35 = .ok (.iastore, 1) := by decide +kernel
theorem dX9_findRow_36 : decode cX9_findRow 36 = .ok (.aload_n 0, 1) := by decide +kernel
theorem dX9_findRow_37 : decode cX9_findRow 37 = .ok (.getfield 90, 3) := by decide +kernel
theorem dX9_findRow_40 : decode cX9_findRow 40 = .ok (.iload_n 2, 1) := by decide +kernel
theorem dX9_findRow_41 : decode cX9_findRow 41 = .ok (.aload_n 0, 1) := by decide +kernel
theorem dX9_findRow_42 : decode cX9_findRow 42 = .ok (.getfield 60, 3) := by decide +kernel
theorem dX9_findRow_45 : decode cX9_findRow 45 = .ok (.iload_n 2, 1) := by decide +kernel
theorem dX9_findRow_46 : decode cX9_findRow 46 = .ok (.iaload, 1) := by decide +kernel
theorem dX9_findRow_47 : decode cX9_findRow 47 = .ok (.aload_n 0, 1) := by decide +kernel
theorem dX9_findRow_48 : decode cX9_findRow 48 = .ok (.getfield 32, 3) := by decide +kernel
theorem dX9_findRow_51 : decode cX9_findRow 51 = .ok (.iload_n 2, 1) := by decide +kernel
theorem dX9_findRow_52 : decode cX9_findRow 52 = .ok (.iaload, 1) := by decide +kernel
theorem dX9_findRow_53 : decode cX9_findRow 53 = .ok (.if_icmp .ge 8, 3) := by decide +kernel
theorem dX9_findRow_56 : decode cX9_findRow 56 = .ok (.bipush 8, 2) := by decide +kernel
theorem dX9_findRow_58 : decode cX9_findRow 58 = .ok (.goto 5, 3) := by decide +kernel
theorem dX9_findRow_61 : decode cX9_findRow 61 = .ok (.bipush (-9), 2) := by decide +kernel
theorem dX9_findRow_63 : decode cX9_findRow 63 = .ok (.iastore, 1) := by decide +kernel
theorem dX9_findRow_64 : decode cX9_findRow 64 = .ok (.iconst 0, 1) := by decide +kernel
theorem dX9_findRow_65 : decode cX9_findRow 65 = .ok (.istore_n 3, 1) := by decide +kernel
theorem dX9_findRow_66 : decode cX9_findRow 66 = .ok (.iload_n 3, 1) := by decide +kernel
theorem dX9_findRow_67 : decode cX9_findRow 67 = .ok (.bipush 8, 2) := by decide +kernel
theorem dX9_findRow_69 : decode cX9_findRow 69 = .ok (.if_icmp .gt 73, 3) := by decide +kernel
theorem dX9_findRow_72 : decode cX9_findRow 72 = .ok (.aload_n 0, 1) := by decide +kernel
theorem dX9_findRow_73 : decode cX9_findRow 73 = .ok (.invokevirtual 255, 3) := by decide +kernel
theorem dX9_findRow_76 : decode cX9_findRow 76 = .ok (.istore 4, 2) := by decide +kernel
theorem dX9_findRow_78 : decode cX9_findRow 78 = .ok (.iload 4, 2) := by decide +kernel
theorem dX9_findRow_80 : decode cX9_findRow 80 = .ok (.aload_n 0, 1) := by decide +kernel
theorem dX9_findRow_81 : decode cX9_findRow 81 = .ok (.getfield 20, 3) := by decide +kernel
theorem dX9_findRow_84 : decode cX9_findRow 84 = .ok (.iconst 0, 1) := by decide +kernel
theorem dX9_findRow_85 : decode cX9_findRow 85 = .ok (.iaload, 1) := by decide +kernel
theorem dX9_findRow_86 : decode cX9_findRow 86 = .ok (.if_icmp .ge 50, 3) := by decide +kernel
theorem dX9_findRow_89 : decode cX9_findRow 89 = .ok (.aload_n 0, 1) := by decide +kernel
theorem dX9_findRow_90 : decode cX9_findRow 90 = .ok (.getfield 81, 3) := by decide +kernel
theorem dX9_findRow_93 : decode cX9_findRow 93 = .ok (.bipush 72, 2) := by decide +kernel
theorem dX9_findRow_95 : decode cX9_findRow 95 = .ok (.iload_n 2, 1) := by decide +kernel
theorem dX9_findRow_96 : decode cX9_findRow 96 = .ok (.imul, 1) := by decide +kernel
theorem dX9_findRow_97 : decode cX9_findRow 97 = .ok (.bipush 8, 2) := by decide +kernel
theorem dX9_findRow_99 : decode cX9_findRow 99 = .ok (.iload_n 3, 1) := by decide +kernel
theorem dX9_findRow_100 : decode cX9_findRow 100 = .ok (.imul, 1) := by decide +kernel
theorem dX9_findRow_101 : decode cX9_findRow 101 = .ok (.iadd, 1) := by decide +kernel
theorem dX9_findRow_102 : decode cX9_findRow 102 = .ok (.iload 4, 2) := by decide +kernel
theorem dX9_findRow_104 : decode cX9_findRow 104 = .ok (.iadd, 1) := by decide +kernel
theorem dX9_findRow_105 : decode cX9_findRow 105 = .ok (.iload_n 3, 1) := by decide +kernel
theorem dX9_findRow_106 : decode cX9_findRow 106 = .ok (.bipush 8, 2) := by decide +kernel
theorem dX9_findRow_108 : decode cX9_findRow 108 = .ok (.if_icmp .eq 9, 3) := by decide +kernel
theorem dX9_findRow_111 : decode cX9_findRow 111 = .ok (.iload_n 3, 1) := by decide +kernel
theorem dX9_findRow_112 : decode cX9_findRow 112 = .ok (.iload 4, 2) := by decide +kernel
theorem dX9_findRow_114 : decode cX9_findRow 114 = .ok (.if_icmp .gt 14, 3) := by decide +kernel
theorem dX9_findRow_117 : decode cX9_findRow 117 = .ok (.aload_n 0, 1) := by decide +kernel
theorem dX9_findRow_118 : decode cX9_findRow 118 = .ok (.iload_n 2, 1) := by decide +kernel
theorem dX9_findRow_119 : decode cX9_findRow 119 = .ok (.iload_n 3, 1) := by decide +kernel
theorem dX9_findRow_120 : decode cX9_findRow 120 = .ok (.iload 4, 2) := by decide +kernel
theorem dX9_findRow_122 : decode cX9_findRow 122 = .ok (.invokevirtual 258, 3) := by decide +kernel
theorem dX9_findRow_125 : decode cX9_findRow 125 = .ok (.goto 4, 3) := by decide +kernel
theorem dX9_findRow_128 : decode cX9_findRow 128 = .ok (.iconst 0, 1) := by decide +kernel
theorem dX9_findRow_129 : decode cX9_findRow 129 = .ok (.iastore, 1) := by decide +kernel
theorem dX9_findRow_130 : decode cX9_findRow 130 = .ok (.iinc 4 1, 3) := by decide +kernel
theorem dX9_findRow_133 : decode cX9_findRow 133 = .ok (.goto (-55), 3) := by decide +kernel
theorem dX9_findRow_136 : decode cX9_findRow 136 = .ok (.iinc 3 1, 3) := by decide +kernel
theorem dX9_findRow_139 : decode cX9_findRow 139 = .ok (.goto (-73), 3) := by decide +kernel
theorem dX9_findRow_142 : decode cX9_findRow 142 = .ok (.iinc 2 1, 3) := by decide +kernel
theorem dX9_findRow_145 : decode cX9_findRow 145 = .ok (.goto (-131), 3) := by decide +kernel
theorem dX9_findRow_148 : decode cX9_findRow 148 = .ok (.iconst (-1), 1) := by decide +kernel
theorem dX9_findRow_149 : decode cX9_findRow 149 = .ok (.istore_n 2, 1) := by decide +kernel
theorem dX9_findRow_150 : decode cX9_findRow 150 = .ok (.iconst 0, 1) := by decide +kernel
theorem dX9_findRow_151 : decode cX9_findRow 151 = .ok (.istore_n 3, 1) := by decide +kernel
theorem dX9_findRow_152 : decode cX9_findRow 152 = .ok (.iconst 0, 1) := by decide +kernel
theorem dX9_findRow_153 : decode cX9_findRow 153 = .ok (.istore 4, 2) := by decide +kernel
theorem dX9_findRow_155 : decode cX9_findRow 155 = .ok (.aload_n 0, 1) := by decide +kernel
theorem dX9_findRow_156 : decode cX9_findRow 156 = .ok (.getfield 84, 3) := by decide +kernel
theorem dX9_findRow_159 : decode cX9_findRow 159 = .ok (.iconst 0, 1) := by decide +kernel
theorem dX9_findRow_160 : decode cX9_findRow 160 = .ok (.iconst (-1), 1) := by decide +kernel
theorem dX9_findRow_161 : decode cX9_findRow 161 = .ok (.iastore, 1) := by decide +kernel
theorem dX9_findRow_162 : decode cX9_findRow 162 = .ok (.iload_n 1, 1) := by decide +kernel
theorem dX9_findRow_163 : decode cX9_findRow 163 = .ok (.ifCond .gt 5, 3) := by decide +kernel
theorem dX9_findRow_166 : decode cX9_findRow 166 = .ok (.iconst 0, 1) := by decide +kernel
theorem dX9_findRow_167 : decode cX9_findRow 167 = .ok (.ireturn, 1) := by decide +kernel
theorem dX9_findRow_168 : decode cX9_findRow 168 = .ok (.iload 4, 2) := by decide +kernel
theorem dX9_findRow_170 : decode cX9_findRow 170 = .ok (.ifCond .lt 224, 3) := by decide +kernel
theorem dX9_findRow_173 : decode cX9_findRow 173 = .ok (.aload_n 0, 1) := by decide +kernel
theorem dX9_findRow_174 : decode cX9_findRow 174 = .ok (.invokevirtual 255, 3) := by decide +kernel
theorem dX9_findRow_177 : decode cX9_findRow 177 = .ok (.iload 4, 2) := by decide +kernel
theorem dX9_findRow_179 : decode cX9_findRow 179 = .ok (.iadd, 1) := by decide +kernel
theorem dX9_findRow_180 : decode cX9_findRow 180 = .ok (.istore 5, 2) := by decide +kernel
theorem dX9_findRow_182 : decode cX9_findRow 182 = .ok (.aload_n 0, 1) := by decide +kernel
theorem dX9_findRow_183 : decode cX9_findRow 183 = .ok (.getfield 84, 3) := by decide +kernel
theorem dX9_findRow_186 : decode cX9_findRow 186 = .ok (.iload 4, 2) := by decide +kernel
theorem dX9_findRow_188 : decode cX9_findRow 188 = .ok (.iaload, 1) := by decide +kernel
theorem dX9_findRow_189 : decode cX9_findRow 189 = .ok (.ifCond .lt 30, 3) := by decide +kernel
theorem dX9_findRow_192 : decode cX9_findRow 192 = .ok (.aload_n 0, 1) := by decide +kernel
theorem dX9_findRow_193 : decode cX9_findRow 193 = .ok (.getfield 84, 3) := by decide +kernel
theorem dX9_findRow_196 : decode cX9_findRow 196 = .ok (.iload 4, 2) := by decide +kernel
theorem dX9_findRow_198 : decode cX9_findRow 198 = .ok (.iaload, 1) := by decide +kernel
theorem dX9_findRow_199 : decode cX9_findRow 199 = .ok (.iconst 3, 1) := by decide +kernel
theorem dX9_findRow_200 : decode cX9_findRow 200 = .ok (.if_icmp .ge 19, 3) := by decide +kernel
theorem dX9_findRow_203 : decode cX9_findRow 203 = .ok (.iload_n 3, 1) := by decide +kernel
theorem dX9_findRow_204 : decode cX9_findRow 204 = .ok (.aload_n 0, 1) := by decide +kernel
theorem dX9_findRow_205 : decode cX9_findRow 205 = .ok (.aload_n 0, 1) := by decide +kernel
theorem dX9_findRow_206 : decode cX9_findRow 206 = .ok (.getfield 84, 3) := by decide +kernel
theorem dX9_findRow_209 : decode cX9_findRow 209 = .ok (.iload 4, 2) := by decide +kernel
theorem dX9_findRow_211 : decode cX9_findRow 211 = .ok (.iaload, 1) := by decide +kernel
theorem dX9_findRow_212 : decode cX9_findRow 212 = .ok (.iload 5, 2) := by decide +kernel
theorem dX9_findRow_214 : decode cX9_findRow 214 = .ok (.invokevirtual 261, 3) := by decide +kernel
theorem dX9_findRow_217 : decode cX9_findRow 217 = .ok (.isub, 1) := by decide +kernel
theorem dX9_findRow_218 : decode cX9_findRow 218 = .ok (.istore_n 3, 1) := by decide +kernel
theorem dX9_findRow_219 : decode cX9_findRow 219 = .ok (.aload_n 0, 1) := by decide +kernel
theorem dX9_findRow_220 : decode cX9_findRow 220 = .ok (.getfield 84, 3) := by decide +kernel
theorem dX9_findRow_223 : decode cX9_findRow 223 = .ok (.iload 4, 2) := by decide +kernel
theorem dX9_findRow_225 : decode cX9_findRow 225 = .ok (.dup2, 1) := by decide +kernel
theorem dX9_findRow_226 : decode cX9_findRow 226 = .ok (.iaload, 1) := by decide +kernel
theorem dX9_findRow_227 : decode cX9_findRow 227 = .ok (.iconst 1, 1) := by decide +kernel
theorem dX9_findRow_228 : decode cX9_findRow 228 = .ok (.iadd, 1) := by decide +kernel
theorem dX9_findRow_229 : decode cX9_findRow 229 = .ok (.iastore, 1) := by decide +kernel
theorem dX9_findRow_230 : decode cX9_findRow 230 = .ok (.aload_n 0, 1) := by decide +kernel
theorem dX9_findRow_231 : decode cX9_findRow 231 = .ok (.getfield 84, 3) := by decide +kernel
theorem dX9_findRow_234 : decode cX9_findRow 234 = .ok (.iload 4, 2) := by decide +kernel
theorem dX9_findRow_236 : decode cX9_findRow 236 = .ok (.iaload, 1) := by decide +kernel
theorem dX9_findRow_237 : decode cX9_findRow 237 = .ok (.iconst 3, 1) := by decide +kernel
theorem dX9_findRow_238 : decode cX9_findRow 238 = .ok (.if_icmp .ge 31, 3) := by decide +kernel
theorem dX9_findRow_241 : decode cX9_findRow 241 = .ok (.aload_n 0, 1) := by decide +kernel
theorem dX9_findRow_242 : decode cX9_findRow 242 = .ok (.aload_n 0, 1) := by decide +kernel
theorem dX9_findRow_243 : decode cX9_findRow 243 = .ok (.getfield 84, 3) := by decide +kernel
theorem dX9_findRow_246 : decode cX9_findRow 246 = .ok (.iload 4, 2) := by decide +kernel
theorem dX9_findRow_248 : decode cX9_findRow 248 = .ok (.iaload, 1) := by decide +kernel
theorem dX9_findRow_249 : decode cX9_findRow 249 = .ok (.invokevirtual 264, 3) := by decide +kernel
theorem dX9_findRow_252 : decode cX9_findRow 252 = .ok (.ifCond .ne 17, 3) := by decide +kernel
theorem dX9_findRow_255 : decode cX9_findRow 255 = .ok (.aload_n 0, 1) := by decide +kernel
theorem dX9_findRow_256 : decode cX9_findRow 256 = .ok (.getfield 84, 3) := by decide +kernel
theorem dX9_findRow_259 : decode cX9_findRow 259 = .ok (.iload 4, 2) := by decide +kernel
theorem dX9_findRow_261 : decode cX9_findRow 261 = .ok (.dup2, 1) := by decide +kernel
theorem dX9_findRow_262 : decode cX9_findRow 262 = .ok (.iaload, 1) := by decide +kernel
theorem dX9_findRow_263 : decode cX9_findRow 263 = .ok (.iconst 1, 1) := by decide +kernel
theorem dX9_findRow_264 : decode cX9_findRow 264 = .ok (.iadd, 1) := by decide +kernel
theorem dX9_findRow_265 : decode cX9_findRow 265 = .ok (.iastore, 1) := by decide +kernel
theorem dX9_findRow_266 : decode cX9_findRow 266 = .ok (.goto (-36), 3) := by decide +kernel
theorem dX9_findRow_269 : decode cX9_findRow 269 = .ok (.aload_n 0, 1) := by decide +kernel
theorem dX9_findRow_270 : decode cX9_findRow 270 = .ok (.getfield 84, 3) := by decide +kernel
theorem dX9_findRow_273 : decode cX9_findRow 273 = .ok (.iload 4, 2) := by decide +kernel
theorem dX9_findRow_275 : decode cX9_findRow 275 = .ok (.iaload, 1) := by decide +kernel
theorem dX9_findRow_276 : decode cX9_findRow 276 = .ok (.iconst 3, 1) := by decide +kernel
theorem dX9_findRow_277 : decode cX9_findRow 277 = .ok (.if_icmp .le 9, 3) := by decide +kernel
theorem dX9_findRow_280 : decode cX9_findRow 280 = .ok (.iinc 4 (-1), 3) := by decide +kernel
theorem dX9_findRow_283 : decode cX9_findRow 283 = .ok (.goto 108, 3) := by decide +kernel
theorem dX9_findRow_286 : decode cX9_findRow 286 = .ok (.iload_n 3, 1) := by decide +kernel
theorem dX9_findRow_287 : decode cX9_findRow 287 = .ok (.aload_n 0, 1) := by decide +kernel
theorem dX9_findRow_288 : decode cX9_findRow 288 = .ok (.getfield 84, 3) := by decide +kernel
theorem dX9_findRow_291 : decode cX9_findRow 291 = .ok (.iload 4, 2) := by decide +kernel
theorem dX9_findRow_293 : decode cX9_findRow 293 = .ok (.iaload, 1) := by decide +kernel
theorem dX9_findRow_294 : decode cX9_findRow 294 = .ok (.iconst 3, 1) := by decide +kernel
theorem dX9_findRow_295 : decode cX9_findRow 295 = .ok (.if_icmp .ge 19, 3) := by decide +kernel
theorem dX9_findRow_298 : decode cX9_findRow 298 = .ok (.aload_n 0, 1) := by decide +kernel
theorem dX9_findRow_299 : decode cX9_findRow 299 = .ok (.aload_n 0, 1) := by decide +kernel
theorem dX9_findRow_300 : decode cX9_findRow 300 = .ok (.getfield 84, 3) := by decide +kernel
theorem dX9_findRow_303 : decode cX9_findRow 303 = .ok (.iload 4, 2) := by decide +kernel
theorem dX9_findRow_305 : decode cX9_findRow 305 = .ok (.iaload, 1) := by decide +kernel
theorem dX9_findRow_306 : decode cX9_findRow 306 = .ok (.iload 5, 2) := by decide +kernel
theorem dX9_findRow_308 : decode cX9_findRow 308 = .ok (.invokevirtual 267, 3) := by decide +kernel
theorem dX9_findRow_311 : decode cX9_findRow 311 = .ok (.goto 4, 3) := by decide +kernel
theorem dX9_findRow_314 : decode cX9_findRow 314 = .ok (.iconst 0, 1) := by decide +kernel
theorem dX9_findRow_315 : decode cX9_findRow 315 = .ok (.iadd, 1) := by decide +kernel
theorem dX9_findRow_316 : decode cX9_findRow 316 = .ok (.istore_n 3, 1) := by decide +kernel
theorem dX9_findRow_317 : decode cX9_findRow 317 = .ok (.iload 4, 2) := by decide +kernel
theorem dX9_findRow_319 : decode cX9_findRow 319 = .ok (.iload_n 1, 1) := by decide +kernel
theorem dX9_findRow_320 : decode cX9_findRow 320 = .ok (.iconst 1, 1) := by decide +kernel
theorem dX9_findRow_321 : decode cX9_findRow 321 = .ok (.isub, 1) := by decide +kernel
theorem dX9_findRow_322 : decode cX9_findRow 322 = .ok (.if_icmp .ne 58, 3) := by decide +kernel
theorem dX9_findRow_325 : decode cX9_findRow 325 = .ok (.iload_n 3, 1) := by decide +kernel
theorem dX9_findRow_326 : decode cX9_findRow 326 = .ok (.iload_n 2, 1) := by decide +kernel
theorem dX9_findRow_327 : decode cX9_findRow 327 = .ok (.if_icmp .le 64, 3) := by decide +kernel
theorem dX9_findRow_330 : decode cX9_findRow 330 = .ok (.iload_n 3, 1) := by decide +kernel
theorem dX9_findRow_331 : decode cX9_findRow 331 = .ok (.istore_n 2, 1) := by decide +kernel
theorem dX9_findRow_332 : decode cX9_findRow 332 = .ok (.iconst 0, 1) := by decide +kernel
theorem dX9_findRow_333 : decode cX9_findRow 333 = .ok (.istore 6, 2) := by decide +kernel
theorem dX9_findRow_335 : decode cX9_findRow 335 = .ok (.iload 6, 2) := by decide +kernel
theorem dX9_findRow_337 : decode cX9_findRow 337 = .ok (.iload_n 1, 1) := by decide +kernel
theorem dX9_findRow_338 : decode cX9_findRow 338 = .ok (.if_icmp .ge 39, 3) := by decide +kernel
theorem dX9_findRow_341 : decode cX9_findRow 341 = .ok (.aload_n 0, 1) := by decide +kernel
theorem dX9_findRow_342 : decode cX9_findRow 342 = .ok (.getfield 87, 3) := by decide +kernel
theorem dX9_findRow_345 : decode cX9_findRow 345 = .ok (.iload 6, 2) := by decide +kernel
theorem dX9_findRow_347 : decode cX9_findRow 347 = .ok (.aload_n 0, 1) := by decide +kernel
theorem dX9_findRow_348 : decode cX9_findRow 348 = .ok (.getfield 84, 3) := by decide +kernel
theorem dX9_findRow_351 : decode cX9_findRow 351 = .ok (.iload 6, 2) := by decide +kernel
theorem dX9_findRow_353 : decode cX9_findRow 353 = .ok (.iaload, 1) := by decide +kernel
theorem dX9_findRow_354 : decode cX9_findRow 354 = .ok (.iconst 3, 1) := by decide +kernel
theorem dX9_findRow_355 : decode cX9_findRow 355 = .ok (.if_icmp .ne 8, 3) := by decide +kernel
theorem dX9_findRow_358 : decode cX9_findRow 358 = .ok (.bipush 6, 2) := by decide +kernel
theorem dX9_findRow_360 : decode cX9_findRow 360 = .ok (.goto 10, 3) := by decide +kernel
theorem dX9_findRow_363 : decode cX9_findRow 363 = .ok (.aload_n 0, 1) := by decide +kernel
theorem dX9_findRow_364 : decode cX9_findRow 364 = .ok (.getfield 84, 3) := by decide +kernel
theorem dX9_findRow_367 : decode cX9_findRow 367 = .ok (.iload 6, 2) := by decide +kernel
theorem dX9_findRow_369 : decode cX9_findRow 369 = .ok (.iaload, 1) := by decide +kernel
theorem dX9_findRow_370 : decode cX9_findRow 370 = .ok (.iastore, 1) := by decide +kernel
theorem dX9_findRow_371 : decode cX9_findRow 371 = .ok (.iinc 6 1, 3) := by decide +kernel
theorem dX9_findRow_374 : decode cX9_findRow 374 = .ok (.goto (-39), 3) := by decide +kernel
theorem dX9_findRow_377 : decode cX9_findRow 377 = .ok (.goto 14, 3) := by decide +kernel
theorem dX9_findRow_380 : decode cX9_findRow 380 = .ok (.iinc 4 1, 3) := by decide +kernel
theorem dX9_findRow_383 : decode cX9_findRow 383 = .ok (.aload_n 0, 1) := by decide +kernel
theorem dX9_findRow_384 : decode cX9_findRow 384 = .ok (.getfield 84, 3) := by decide +kernel
theorem dX9_findRow_387 : decode cX9_findRow 387 = .ok (.iload 4, 2) := by decide +kernel
theorem dX9_findRow_389 : decode cX9_findRow 389 = .ok (.iconst (-1), 1) := by decide +kernel
theorem dX9_findRow_390 : decode cX9_findRow 390 = .ok (.iastore, 1) := by decide +kernel
theorem dX9_findRow_391 : decode cX9_findRow 391 = .ok (.goto (-223), 3) := by decide +kernel
theorem dX9_findRow_394 : decode cX9_findRow 394 = .ok (.iload_n 2, 1) := by decide +kernel
theorem dX9_findRow_395 : decode cX9_findRow 395 = .ok (.ireturn, 1) := by decide +kernel
theorem dX9_gainIn_0 : decode cX9_gainIn 0 = .ok (.aload_n 0, 1) := by decide +kernel
theorem dX9_gainIn_1 : decode cX9_gainIn 1 = .ok (.getfield 81, 3) := by decide +kernel
theorem dX9_gainIn_4 : decode cX9_gainIn 4 = .ok (.bipush 72, 2) := by decide +kernel
theorem dX9_gainIn_6 : decode cX9_gainIn 6 = .ok (.iload_n 1, 1) := by decide +kernel
theorem dX9_gainIn_7 : decode cX9_gainIn 7 = .ok (.imul, 1) := by decide +kernel
theorem dX9_gainIn_8 : decode cX9_gainIn 8 = .ok (.bipush 8, 2) := by decide +kernel
theorem dX9_gainIn_10 : decode cX9_gainIn 10 = .ok (.aload_n 0, 1) := by decide +kernel
theorem dX9_gainIn_11 : decode cX9_gainIn 11 = .ok (.getfield 90, 3) := by decide +kernel
theorem dX9_gainIn_14 : decode cX9_gainIn 14 = .ok (.iload_n 1, 1) := by decide +kernel
theorem dX9_gainIn_15 : decode cX9_gainIn 15 = .ok (.iaload, 1) := by decide +kernel
theorem dX9_gainIn_16 : decode cX9_gainIn 16 = .ok (.imul, 1) := by decide +kernel
theorem dX9_gainIn_17 : decode cX9_gainIn 17 = .ok (.iadd, 1) := by decide +kernel
theorem dX9_gainIn_18 : decode cX9_gainIn 18 = .ok (.iload_n 2, 1) := by decide +kernel
theorem dX9_gainIn_19 : decode cX9_gainIn 19 = .ok (.iadd, 1) := by decide +kernel
theorem dX9_gainIn_20 : decode cX9_gainIn 20 = .ok (.iaload, 1) := by decide +kernel
theorem dX9_gainIn_21 : decode cX9_gainIn 21 = .ok (.ireturn, 1) := by decide +kernel
theorem dX9_eatBlind_0 : decode cX9_eatBlind 0 = .ok (.aload_n 0, 1) := by decide +kernel
theorem dX9_eatBlind_1 : decode cX9_eatBlind 1 = .ok (.getfield 90, 3) := by decide +kernel
theorem dX9_eatBlind_4 : decode cX9_eatBlind 4 = .ok (.iload_n 1, 1) := by decide +kernel
theorem dX9_eatBlind_5 : decode cX9_eatBlind 5 = .ok (.aload_n 0, 1) := by decide +kernel
theorem dX9_eatBlind_6 : decode cX9_eatBlind 6 = .ok (.getfield 90, 3) := by decide +kernel
theorem dX9_eatBlind_9 : decode cX9_eatBlind 9 = .ok (.iload_n 1, 1) := by decide +kernel
theorem dX9_eatBlind_10 : decode cX9_eatBlind 10 = .ok (.iaload, 1) := by decide +kernel
theorem dX9_eatBlind_11 : decode cX9_eatBlind 11 = .ok (.bipush (-9), 2) := by decide +kernel
theorem dX9_eatBlind_13 : decode cX9_eatBlind 13 = .ok (.if_icmp .ne 7, 3) := by decide +kernel
theorem dX9_eatBlind_16 : decode cX9_eatBlind 16 = .ok (.iload_n 2, 1) := by decide +kernel
theorem dX9_eatBlind_17 : decode cX9_eatBlind 17 = .ok (.goto 9, 3) := by decide +kernel
theorem dX9_eatBlind_20 : decode cX9_eatBlind 20 = .ok (.aload_n 0, 1) := by decide +kernel
theorem dX9_eatBlind_21 : decode cX9_eatBlind 21 = .ok (.getfield 90, 3) := by decide +kernel
theorem dX9_eatBlind_24 : decode cX9_eatBlind 24 = .ok (.iload_n 1, 1) := by decide +kernel
theorem dX9_eatBlind_25 : decode cX9_eatBlind 25 = .ok (.iaload, 1) := by decide +kernel
theorem dX9_eatBlind_26 : decode cX9_eatBlind 26 = .ok (.iastore, 1) := by decide +kernel
theorem dX9_eatBlind_27 : decode cX9_eatBlind 27 = .ok (.aload_n 0, 1) := by decide +kernel
theorem dX9_eatBlind_28 : decode cX9_eatBlind 28 = .ok (.getfield 93, 3) := by decide +kernel
theorem dX9_eatBlind_31 : decode cX9_eatBlind 31 = .ok (.iload_n 1, 1) := by decide +kernel
theorem dX9_eatBlind_32 : decode cX9_eatBlind 32 = .ok (.dup2, 1) := by decide +kernel
theorem dX9_eatBlind_33 : decode cX9_eatBlind 33 = .ok (.iaload, 1) := by decide +kernel
theorem dX9_eatBlind_34 : decode cX9_eatBlind 34 = .ok (.iconst 1, 1) := by decide +kernel
theorem dX9_eatBlind_35 : decode cX9_eatBlind 35 = .ok (.isub, 1) := by decide +kernel
theorem dX9_eatBlind_36 : decode cX9_eatBlind 36 = .ok (.iastore, 1) := by decide +kernel
theorem dX9_eatBlind_37 : decode cX9_eatBlind 37 = .ok (.aload_n 0, 1) := by decide +kernel
theorem dX9_eatBlind_38 : decode cX9_eatBlind 38 = .ok (.iload_n 1, 1) := by decide +kernel
theorem dX9_eatBlind_39 : decode cX9_eatBlind 39 = .ok (.iload_n 2, 1) := by decide +kernel
theorem dX9_eatBlind_40 : decode cX9_eatBlind 40 = .ok (.invokevirtual 270, 3) := by decide +kernel
theorem dX9_eatBlind_43 : decode cX9_eatBlind 43 = .ok (.ireturn, 1) := by decide +kernel
theorem dX9_undo_0 : decode cX9_undo 0 = .ok (.aload_n 0, 1) := by decide +kernel
theorem dX9_undo_1 : decode cX9_undo 1 = .ok (.iload_n 1, 1) := by decide +kernel
theorem dX9_undo_2 : decode cX9_undo 2 = .ok (.iload_n 2, 1) := by decide +kernel
theorem dX9_undo_3 : decode cX9_undo 3 = .ok (.invokevirtual 270, 3) := by decide +kernel
theorem dX9_undo_6 : decode cX9_undo 6 = .ok (.istore_n 3, 1) := by decide +kernel
theorem dX9_undo_7 : decode cX9_undo 7 = .ok (.aload_n 0, 1) := by decide +kernel
theorem dX9_undo_8 : decode cX9_undo 8 = .ok (.getfield 93, 3) := by decide +kernel
theorem dX9_undo_11 : decode cX9_undo 11 = .ok (.iload_n 1, 1) := by decide +kernel
theorem dX9_undo_12 : decode cX9_undo 12 = .ok (.dup2, 1) := by decide +kernel
theorem dX9_undo_13 : decode cX9_undo 13 = .ok (.iaload, 1) := by decide +kernel
theorem dX9_undo_14 : decode cX9_undo 14 = .ok (.iconst 1, 1) := by decide +kernel
theorem dX9_undo_15 : decode cX9_undo 15 = .ok (.iadd, 1) := by decide +kernel
theorem dX9_undo_16 : decode cX9_undo 16 = .ok (.iastore, 1) := by decide +kernel
theorem dX9_undo_17 : decode cX9_undo 17 = .ok (.aload_n 0, 1) := by decide +kernel
theorem dX9_undo_18 : decode cX9_undo 18 = .ok (.getfield 90, 3) := by decide +kernel
theorem dX9_undo_21 : decode cX9_undo 21 = .ok (.iload_n 1, 1) := by decide +kernel
theorem dX9_undo_22 : decode cX9_undo 22 = .ok (.aload_n 0, 1) := by decide +kernel
theorem dX9_undo_23 : decode cX9_undo 23 = .ok (.getfield 93, 3) := by decide +kernel
theorem dX9_undo_26 : decode cX9_undo 26 = .ok (.iload_n 1, 1) := by decide +kernel
theorem dX9_undo_27 : decode cX9_undo 27 = .ok (.iaload, 1) := by decide +kernel
theorem dX9_undo_28 : decode cX9_undo 28 = .ok (.aload_n 0, 1) := by decide +kernel
theorem dX9_undo_29 : decode cX9_undo 29 = .ok (.getfield 32, 3) := by decide +kernel
theorem dX9_undo_32 : decode cX9_undo 32 = .ok (.iload_n 1, 1) := by decide +kernel
theorem dX9_undo_33 : decode cX9_undo 33 = .ok (.iaload, 1) := by decide +kernel
theorem dX9_undo_34 : decode cX9_undo 34 = .ok (.if_icmp .ne 8, 3) := by decide +kernel
theorem dX9_undo_37 : decode cX9_undo 37 = .ok (.bipush (-9), 2) := by decide +kernel
theorem dX9_undo_39 : decode cX9_undo 39 = .ok (.goto 9, 3) := by decide +kernel
theorem dX9_undo_42 : decode cX9_undo 42 = .ok (.aload_n 0, 1) := by decide +kernel
theorem dX9_undo_43 : decode cX9_undo 43 = .ok (.getfield 90, 3) := by decide +kernel
theorem dX9_undo_46 : decode cX9_undo 46 = .ok (.iload_n 1, 1) := by decide +kernel
theorem dX9_undo_47 : decode cX9_undo 47 = .ok (.iaload, 1) := by decide +kernel
theorem dX9_undo_48 : decode cX9_undo 48 = .ok (.iastore, 1) := by decide +kernel
theorem dX9_undo_49 : decode cX9_undo 49 = .ok (.iload_n 3, 1) := by decide +kernel
theorem dX9_undo_50 : decode cX9_undo 50 = .ok (.ireturn, 1) := by decide +kernel
theorem dX9_blind_0 : decode cX9_blind 0 = .ok (.aload_n 0, 1) := by decide +kernel
theorem dX9_blind_1 : decode cX9_blind 1 = .ok (.invokevirtual 188, 3) := by decide +kernel
theorem dX9_blind_4 : decode cX9_blind 4 = .ok (.ifCond .eq 7, 3) := by decide +kernel
theorem dX9_blind_7 : decode cX9_blind 7 = .ok (.iconst 0, 1) := by decide +kernel
theorem dX9_blind_8 : decode cX9_blind 8 = .ok (.goto 14, 3) := by decide +kernel
theorem dX9_blind_11 : decode cX9_blind 11 = .ok (.aload_n 0, 1) := by decide +kernel
theorem dX9_blind_12 : decode cX9_blind 12 = .ok (.getfield 20, 3) := by decide +kernel
theorem dX9_blind_15 : decode cX9_blind 15 = .ok (.iconst 0, 1) := by decide +kernel
theorem dX9_blind_16 : decode cX9_blind 16 = .ok (.iaload, 1) := by decide +kernel
theorem dX9_blind_17 : decode cX9_blind 17 = .ok (.aload_n 0, 1) := by decide +kernel
theorem dX9_blind_18 : decode cX9_blind 18 = .ok (.invokevirtual 255, 3) := by decide +kernel
theorem dX9_blind_21 : decode cX9_blind 21 = .ok (.isub, 1) := by decide +kernel
theorem dX9_blind_22 : decode cX9_blind 22 = .ok (.istore_n 2, 1) := by decide +kernel
theorem dX9_blind_23 : decode cX9_blind 23 = .ok (.iload_n 1, 1) := by decide +kernel
theorem dX9_blind_24 : decode cX9_blind 24 = .ok (.bipush (-2), 2) := by decide +kernel
theorem dX9_blind_26 : decode cX9_blind 26 = .ok (.iload_n 2, 1) := by decide +kernel
theorem dX9_blind_27 : decode cX9_blind 27 = .ok (.iconst 1, 1) := by decide +kernel
theorem dX9_blind_28 : decode cX9_blind 28 = .ok (.isub, 1) := by decide +kernel
theorem dX9_blind_29 : decode cX9_blind 29 = .ok (.invokestatic 103, 3) := by decide +kernel
theorem dX9_blind_32 : decode cX9_blind 32 = .ok (.ifCond .ne 6, 3) := by decide +kernel
theorem dX9_blind_35 : decode cX9_blind 35 = .ok (.ldc 242, 2) := by decide +kernel
theorem dX9_blind_37 : decode cX9_blind 37 = .ok (.ireturn, 1) := by decide +kernel
theorem dX9_blind_38 : decode cX9_blind 38 = .ok (.iload_n 2, 1) := by decide +kernel
theorem dX9_blind_39 : decode cX9_blind 39 = .ok (.ifCond .ne 7, 3) := by decide +kernel
theorem dX9_blind_42 : decode cX9_blind 42 = .ok (.iconst 0, 1) := by decide +kernel
theorem dX9_blind_43 : decode cX9_blind 43 = .ok (.goto 7, 3) := by decide +kernel
theorem dX9_blind_46 : decode cX9_blind 46 = .ok (.aload_n 0, 1) := by decide +kernel
theorem dX9_blind_47 : decode cX9_blind 47 = .ok (.invokevirtual 273, 3) := by decide +kernel
theorem dX9_blind_50 : decode cX9_blind 50 = .ok (.istore_n 3, 1) := by decide +kernel
theorem dX9_blind_51 : decode cX9_blind 51 = .ok (.iload_n 1, 1) := by decide +kernel
theorem dX9_blind_52 : decode cX9_blind 52 = .ok (.bipush (-2), 2) := by decide +kernel
theorem dX9_blind_54 : decode cX9_blind 54 = .ok (.if_icmp .ne 7, 3) := by decide +kernel
theorem dX9_blind_57 : decode cX9_blind 57 = .ok (.iload_n 2, 1) := by decide +kernel
theorem dX9_blind_58 : decode cX9_blind 58 = .ok (.goto 18, 3) := by decide +kernel
theorem dX9_blind_61 : decode cX9_blind 61 = .ok (.iload_n 1, 1) := by decide +kernel
theorem dX9_blind_62 : decode cX9_blind 62 = .ok (.iconst (-1), 1) := by decide +kernel
theorem dX9_blind_63 : decode cX9_blind 63 = .ok (.if_icmp .ne 7, 3) := by decide +kernel
theorem dX9_blind_66 : decode cX9_blind 66 = .ok (.iload_n 3, 1) := by decide +kernel
theorem dX9_blind_67 : decode cX9_blind 67 = .ok (.goto 9, 3) := by decide +kernel
theorem dX9_blind_70 : decode cX9_blind 70 = .ok (.aload_n 0, 1) := by decide +kernel
theorem dX9_blind_71 : decode cX9_blind 71 = .ok (.getfield 87, 3) := by decide +kernel
theorem dX9_blind_74 : decode cX9_blind 74 = .ok (.iload_n 1, 1) := by decide +kernel
theorem dX9_blind_75 : decode cX9_blind 75 = .ok (.iaload, 1) := by decide +kernel
theorem dX9_blind_76 : decode cX9_blind 76 = .ok (.ireturn, 1) := by decide +kernel
theorem dX9_know_0 : decode cX9_know 0 = .ok (.aload_n 0, 1) := by decide +kernel
theorem dX9_know_1 : decode cX9_know 1 = .ok (.iconst 4, 1) := by decide +kernel
theorem dX9_know_2 : decode cX9_know 2 = .ok (.invokevirtual 236, 3) := by decide +kernel
theorem dX9_know_5 : decode cX9_know 5 = .ok (.aload_n 0, 1) := by decide +kernel
theorem dX9_know_6 : decode cX9_know 6 = .ok (.invokevirtual 276, 3) := by decide +kernel
theorem dX9_know_9 : decode cX9_know 9 = .ok (.isub, 1) := by decide +kernel
theorem dX9_know_10 : decode cX9_know 10 = .ok (.ireturn, 1) := by decide +kernel
theorem dX9_blindNow_0 : decode cX9_blindNow 0 = .ok (.aload_n 0, 1) := by decide +kernel
theorem dX9_blindNow_1 : decode cX9_blindNow 1 = .ok (.invokevirtual 188, 3) := by decide +kernel
theorem dX9_blindNow_4 : decode cX9_blindNow 4 = .ok (.ifCond .ne 16, 3) := by decide +kernel
theorem dX9_blindNow_7 : decode cX9_blindNow 7 = .ok (.aload_n 0, 1) := by decide +kernel
theorem dX9_blindNow_8 : decode cX9_blindNow 8 = .ok (.getfield 20, 3) := by decide +kernel
theorem dX9_blindNow_11 : decode cX9_blindNow 11 = .ok (.iconst 0, 1) := by decide +kernel
theorem dX9_blindNow_12 : decode cX9_blindNow 12 = .ok (.iaload, 1) := by decide +kernel
theorem dX9_blindNow_13 : decode cX9_blindNow 13 = .ok (.aload_n 0, 1) := by decide +kernel
theorem dX9_blindNow_14 : decode cX9_blindNow 14 = .ok (.invokevirtual 255, 3) := by decide +kernel
theorem dX9_blindNow_17 : decode cX9_blindNow 17 = .ok (.if_icmp .ne 7, 3) := by decide +kernel
theorem dX9_blindNow_20 : decode cX9_blindNow 20 = .ok (.iconst 0, 1) := by decide +kernel
theorem dX9_blindNow_21 : decode cX9_blindNow 21 = .ok (.goto 7, 3) := by decide +kernel
theorem dX9_blindNow_24 : decode cX9_blindNow 24 = .ok (.aload_n 0, 1) := by decide +kernel
theorem dX9_blindNow_25 : decode cX9_blindNow 25 = .ok (.invokevirtual 273, 3) := by decide +kernel
theorem dX9_blindNow_28 : decode cX9_blindNow 28 = .ok (.ireturn, 1) := by decide +kernel
theorem dX9_spare_0 : decode cX9_spare 0 = .ok (.aload_n 0, 1) := by decide +kernel
theorem dX9_spare_1 : decode cX9_spare 1 = .ok (.iload_n 1, 1) := by decide +kernel
theorem dX9_spare_2 : decode cX9_spare 2 = .ok (.invokevirtual 164, 3) := by decide +kernel
theorem dX9_spare_5 : decode cX9_spare 5 = .ok (.ifCond .ne 6, 3) := by decide +kernel
theorem dX9_spare_8 : decode cX9_spare 8 = .ok (.ldc 242, 2) := by decide +kernel
theorem dX9_spare_10 : decode cX9_spare 10 = .ok (.ireturn, 1) := by decide +kernel
theorem dX9_spare_11 : decode cX9_spare 11 = .ok (.aload_n 0, 1) := by decide +kernel
theorem dX9_spare_12 : decode cX9_spare 12 = .ok (.iconst 4, 1) := by decide +kernel
theorem dX9_spare_13 : decode cX9_spare 13 = .ok (.invokevirtual 236, 3) := by decide +kernel
theorem dX9_spare_16 : decode cX9_spare 16 = .ok (.istore_n 2, 1) := by decide +kernel
theorem dX9_spare_17 : decode cX9_spare 17 = .ok (.aload_n 0, 1) := by decide +kernel
theorem dX9_spare_18 : decode cX9_spare 18 = .ok (.getfield 63, 3) := by decide +kernel
theorem dX9_spare_21 : decode cX9_spare 21 = .ok (.iload_n 1, 1) := by decide +kernel
theorem dX9_spare_22 : decode cX9_spare 22 = .ok (.baload, 1) := by decide +kernel
theorem dX9_spare_23 : decode cX9_spare 23 = .ok (.istore_n 3, 1) := by decide +kernel
theorem dX9_spare_24 : decode cX9_spare 24 = .ok (.aload_n 0, 1) := by decide +kernel
theorem dX9_spare_25 : decode cX9_spare 25 = .ok (.getfield 63, 3) := by decide +kernel
theorem dX9_spare_28 : decode cX9_spare 28 = .ok (.iload_n 1, 1) := by decide +kernel
theorem dX9_spare_29 : decode cX9_spare 29 = .ok (.iconst 1, 1) := by decide +kernel
theorem dX9_spare_30 : decode cX9_spare 30 = .ok (.bastore, 1) := by decide +kernel
theorem dX9_spare_31 : decode cX9_spare 31 = .ok (.aload_n 0, 1) := by decide +kernel
theorem dX9_spare_32 : decode cX9_spare 32 = .ok (.iconst 4, 1) := by decide +kernel
theorem dX9_spare_33 : decode cX9_spare 33 = .ok (.invokevirtual 236, 3) := by decide +kernel
theorem dX9_spare_36 : decode cX9_spare 36 = .ok (.istore 4, 2) := by decide +kernel
theorem dX9_spare_38 : decode cX9_spare 38 = .ok (.aload_n 0, 1) := by decide +kernel
theorem dX9_spare_39 : decode cX9_spare 39 = .ok (.getfield 63, 3) := by decide +kernel
theorem dX9_spare_42 : decode cX9_spare 42 = .ok (.iload_n 1, 1) := by decide +kernel
theorem dX9_spare_43 : decode cX9_spare 43 = .ok (.iload_n 3, 1) := by decide +kernel
theorem dX9_spare_44 : decode cX9_spare 44 = .ok (.bastore, 1) := by decide +kernel
theorem dX9_spare_45 : decode cX9_spare 45 = .ok (.iload 4, 2) := by decide +kernel
theorem dX9_spare_47 : decode cX9_spare 47 = .ok (.iload_n 2, 1) := by decide +kernel
theorem dX9_spare_48 : decode cX9_spare 48 = .ok (.isub, 1) := by decide +kernel
theorem dX9_spare_49 : decode cX9_spare 49 = .ok (.ireturn, 1) := by decide +kernel
theorem dX9_common_0 : decode cX9_common 0 = .ok (.lload_n 0, 1) := by decide +kernel
theorem dX9_common_1 : decode cX9_common 1 = .ok (.lstore 4, 2) := by decide +kernel
theorem dX9_common_3 : decode cX9_common 3 = .ok (.lload_n 2, 1) := by decide +kernel
theorem dX9_common_4 : decode cX9_common 4 = .ok (.lstore 6, 2) := by decide +kernel
theorem dX9_common_6 : decode cX9_common 6 = .ok (.lload 6, 2) := by decide +kernel
theorem dX9_common_8 : decode cX9_common 8 = .ok (.lconst 0, 1) := by decide +kernel
theorem dX9_common_9 : decode cX9_common 9 = .ok (.lcmp, 1) := by decide +kernel
theorem dX9_common_10 : decode cX9_common 10 = .ok (.ifCond .eq 21, 3) := by decide +kernel
theorem dX9_common_13 : decode cX9_common 13 = .ok (.lload 4, 2) := by decide +kernel
theorem dX9_common_15 : decode cX9_common 15 = .ok (.lload 6, 2) := by decide +kernel
theorem dX9_common_17 : decode cX9_common 17 = .ok (.lrem, 1) := by decide +kernel
theorem dX9_common_18 : decode cX9_common 18 = .ok (.lstore 8, 2) := by decide +kernel
theorem dX9_common_20 : decode cX9_common 20 = .ok (.lload 6, 2) := by decide +kernel
theorem dX9_common_22 : decode cX9_common 22 = .ok (.lstore 4, 2) := by decide +kernel
theorem dX9_common_24 : decode cX9_common 24 = .ok (.lload 8, 2) := by decide +kernel
theorem dX9_common_26 : decode cX9_common 26 = .ok (.lstore 6, 2) := by decide +kernel
theorem dX9_common_28 : decode cX9_common 28 = .ok (.goto (-22), 3) := by decide +kernel
theorem dX9_common_31 : decode cX9_common 31 = .ok (.lload 4, 2) := by decide +kernel
theorem dX9_common_33 : decode cX9_common 33 = .ok (.lreturn, 1) := by decide +kernel
theorem dX9_inLeast_0 : decode cX9_inLeast 0 = .ok (.lload_n 0, 1) := by decide +kernel
theorem dX9_inLeast_1 : decode cX9_inLeast 1 = .ok (.lload_n 2, 1) := by decide +kernel
theorem dX9_inLeast_2 : decode cX9_inLeast 2 = .ok (.invokestatic 279, 3) := by decide +kernel
theorem dX9_inLeast_5 : decode cX9_inLeast 5 = .ok (.lstore 5, 2) := by decide +kernel
theorem dX9_inLeast_7 : decode cX9_inLeast 7 = .ok (.iload 4, 2) := by decide +kernel
theorem dX9_inLeast_9 : decode cX9_inLeast 9 = .ok (.ifCond .ne 10, 3) := by decide +kernel
theorem dX9_inLeast_12 : decode cX9_inLeast 12 = .ok (.lload_n 0, 1) := by decide +kernel
theorem dX9_inLeast_13 : decode cX9_inLeast 13 = .ok (.lload 5, 2) := by decide +kernel
theorem dX9_inLeast_15 : decode cX9_inLeast 15 = .ok (.ldiv, 1) := by decide +kernel
theorem dX9_inLeast_16 : decode cX9_inLeast 16 = .ok (.goto 7, 3) := by decide +kernel
theorem dX9_inLeast_19 : decode cX9_inLeast 19 = .ok (.lload_n 2, 1) := by decide +kernel
theorem dX9_inLeast_20 : decode cX9_inLeast 20 = .ok (.lload 5, 2) := by decide +kernel
theorem dX9_inLeast_22 : decode cX9_inLeast 22 = .ok (.ldiv, 1) := by decide +kernel
theorem dX9_inLeast_23 : decode cX9_inLeast 23 = .ok (.lreturn, 1) := by decide +kernel
theorem dX9_stands_0 : decode cX9_stands 0 = .ok (.aload_n 0, 1) := by decide +kernel
theorem dX9_stands_1 : decode cX9_stands 1 = .ok (.iload_n 1, 1) := by decide +kernel
theorem dX9_stands_2 : decode cX9_stands 2 = .ok (.invokevirtual 164, 3) := by decide +kernel
theorem dX9_stands_5 : decode cX9_stands 5 = .ok (.ifCond .eq 32, 3) := by decide +kernel
theorem dX9_stands_8 : decode cX9_stands 8 = .ok (.iload_n 2, 1) := by decide +kernel
theorem dX9_stands_9 : decode cX9_stands 9 = .ok (.iconst 0, 1) := by decide +kernel
theorem dX9_stands_10 : decode cX9_stands 10 = .ok (.bipush 8, 2) := by decide +kernel
theorem dX9_stands_12 : decode cX9_stands 12 = .ok (.invokestatic 103, 3) := by decide +kernel
theorem dX9_stands_15 : decode cX9_stands 15 = .ok (.ifCond .eq 22, 3) := by decide +kernel
theorem dX9_stands_18 : decode cX9_stands 18 = .ok (.iload_n 3, 1) := by decide +kernel
theorem dX9_stands_19 : decode cX9_stands 19 = .ok (.iconst 0, 1) := by decide +kernel
theorem dX9_stands_20 : decode cX9_stands 20 = .ok (.iconst 3, 1) := by decide +kernel
theorem dX9_stands_21 : decode cX9_stands 21 = .ok (.invokestatic 103, 3) := by decide +kernel
theorem dX9_stands_24 : decode cX9_stands 24 = .ok (.ifCond .eq 13, 3) := by decide +kernel
theorem dX9_stands_27 : decode cX9_stands 27 = .ok (.iload 4, 2) := by decide +kernel
theorem dX9_stands_29 : decode cX9_stands 29 = .ok (.iconst 0, 1) := by decide +kernel
theorem dX9_stands_30 : decode cX9_stands 30 = .ok (.iconst 1, 1) := by decide +kernel
theorem dX9_stands_31 : decode cX9_stands 31 = .ok (.invokestatic 103, 3) := by decide +kernel
theorem dX9_stands_34 : decode cX9_stands 34 = .ok (.ifCond .ne 7, 3) := by decide +kernel
theorem dX9_stands_37 : decode cX9_stands 37 = .ok (.ldc2_w 283, 3) := by decide +kernel
theorem dX9_stands_40 : decode cX9_stands 40 = .ok (.lreturn, 1) := by decide +kernel
theorem dX9_stands_41 : decode cX9_stands 41 = .ok (.lconst 1, 1) := by decide +kernel
theorem dX9_stands_42 : decode cX9_stands 42 = .ok (.lstore 5, 2) := by decide +kernel
theorem dX9_stands_44 : decode cX9_stands 44 = .ok (.iconst 0, 1) := by decide +kernel
theorem dX9_stands_45 : decode cX9_stands 45 = .ok (.istore 7, 2) := by decide +kernel
theorem dX9_stands_47 : decode cX9_stands 47 = .ok (.iload 7, 2) := by decide +kernel
theorem dX9_stands_49 : decode cX9_stands 49 = .ok (.iconst 4, 1) := by decide +kernel
theorem dX9_stands_50 : decode cX9_stands 50 = .ok (.if_icmp .ge 32, 3) := by decide +kernel
theorem dX9_stands_53 : decode cX9_stands 53 = .ok (.aload_n 0, 1) := by decide +kernel
theorem dX9_stands_54 : decode cX9_stands 54 = .ok (.getfield 96, 3) := by decide +kernel
theorem dX9_stands_57 : decode cX9_stands 57 = .ok (.iload 7, 2) := by decide +kernel
theorem dX9_stands_59 : decode cX9_stands 59 = .ok (.iload 7, 2) := by decide +kernel
theorem dX9_stands_61 : decode cX9_stands 61 = .ok (.aload_n 0, 1) := by decide +kernel
theorem dX9_stands_62 : decode cX9_stands 62 = .ok (.getfield 57, 3) := by decide +kernel
theorem dX9_stands_65 : decode cX9_stands 65 = .ok (.iload_n 1, 1) := by decide +kernel
theorem dX9_stands_66 : decode cX9_stands 66 = .ok (.iaload, 1) := by decide +kernel
theorem dX9_stands_67 : decode cX9_stands 67 = .ok (.if_icmp .ne 7, 3) := by decide +kernel
theorem dX9_stands_70 : decode cX9_stands 70 = .ok (.lconst 1, 1) := by decide +kernel
theorem dX9_stands_71 : decode cX9_stands 71 = .ok (.goto 4, 3) := by decide +kernel
theorem dX9_stands_74 : decode cX9_stands 74 = .ok (.lconst 0, 1) := by decide +kernel
theorem dX9_stands_75 : decode cX9_stands 75 = .ok (.lastore, 1) := by decide +kernel
theorem dX9_stands_76 : decode cX9_stands 76 = .ok (.iinc 7 1, 3) := by decide +kernel
theorem dX9_stands_79 : decode cX9_stands 79 = .ok (.goto (-32), 3) := by decide +kernel
theorem dX9_stands_82 : decode cX9_stands 82 = .ok (.iconst 0, 1) := by decide +kernel
theorem dX9_stands_83 : decode cX9_stands 83 = .ok (.istore 7, 2) := by decide +kernel
theorem dX9_stands_85 : decode cX9_stands 85 = .ok (.iload 7, 2) := by decide +kernel
theorem dX9_stands_87 : decode cX9_stands 87 = .ok (.iload_n 2, 1) := by decide +kernel
theorem dX9_stands_88 : decode cX9_stands 88 = .ok (.if_icmp .ge 100, 3) := by decide +kernel
theorem dX9_stands_91 : decode cX9_stands 91 = .ok (.iconst 3, 1) := by decide +kernel
theorem dX9_stands_92 : decode cX9_stands 92 = .ok (.istore 8, 2) := by decide +kernel
theorem dX9_stands_94 : decode cX9_stands 94 = .ok (.iload 8, 2) := by decide +kernel
theorem dX9_stands_96 : decode cX9_stands 96 = .ok (.ifCond .lt 78, 3) := by decide +kernel
theorem dX9_stands_99 : decode cX9_stands 99 = .ok (.aload_n 0, 1) := by decide +kernel
theorem dX9_stands_100 : decode cX9_stands 100 = .ok (.iload_n 1, 1) := by decide +kernel
theorem dX9_stands_101 : decode cX9_stands 101 = .ok (.iload 8, 2) := by decide +kernel
theorem dX9_stands_103 : decode cX9_stands 103 = .ok (.aload_n 0, 1) := by decide +kernel
theorem dX9_stands_104 : decode cX9_stands 104 = .ok (.getfield 60, 3) := by decide +kernel
theorem dX9_stands_107 : decode cX9_stands 107 = .ok (.iload_n 1, 1) := by decide +kernel
theorem dX9_stands_108 : decode cX9_stands 108 = .ok (.iaload, 1) := by decide +kernel
theorem dX9_stands_109 : decode cX9_stands 109 = .ok (.aload_n 0, 1) := by decide +kernel
theorem dX9_stands_110 : decode cX9_stands 110 = .ok (.getfield 41, 3) := by decide +kernel
theorem dX9_stands_113 : decode cX9_stands 113 = .ok (.iconst 0, 1) := by decide +kernel
theorem dX9_stands_114 : decode cX9_stands 114 = .ok (.iaload, 1) := by decide +kernel
theorem dX9_stands_115 : decode cX9_stands 115 = .ok (.iload 7, 2) := by decide +kernel
theorem dX9_stands_117 : decode cX9_stands 117 = .ok (.iadd, 1) := by decide +kernel
theorem dX9_stands_118 : decode cX9_stands 118 = .ok (.invokevirtual 171, 3) := by decide +kernel
theorem dX9_stands_121 : decode cX9_stands 121 = .ok (.istore 9, 2) := by decide +kernel
theorem dX9_stands_123 : decode cX9_stands 123 = .ok (.iload 8, 2) := by decide +kernel
theorem dX9_stands_125 : decode cX9_stands 125 = .ok (.iconst 3, 1) := by decide +kernel
theorem dX9_stands_126 : decode cX9_stands 126 = .ok (.if_icmp .ge 26, 3) := by decide +kernel
theorem dX9_stands_129 : decode cX9_stands 129 = .ok (.aload_n 0, 1) := by decide +kernel
theorem dX9_stands_130 : decode cX9_stands 130 = .ok (.getfield 96, 3) := by decide +kernel
theorem dX9_stands_133 : decode cX9_stands 133 = .ok (.iload 8, 2) := by decide +kernel
theorem dX9_stands_135 : decode cX9_stands 135 = .ok (.iconst 1, 1) := by decide +kernel
theorem dX9_stands_136 : decode cX9_stands 136 = .ok (.iadd, 1) := by decide +kernel
theorem dX9_stands_137 : decode cX9_stands 137 = .ok (.dup2, 1) := by decide +kernel
theorem dX9_stands_138 : decode cX9_stands 138 = .ok (.laload, 1) := by decide +kernel
theorem dX9_stands_139 : decode cX9_stands 139 = .ok (.aload_n 0, 1) := by decide +kernel
theorem dX9_stands_140 : decode cX9_stands 140 = .ok (.getfield 96, 3) := by decide +kernel
theorem dX9_stands_143 : decode cX9_stands 143 = .ok (.iload 8, 2) := by decide +kernel
theorem dX9_stands_145 : decode cX9_stands 145 = .ok (.laload, 1) := by decide +kernel
theorem dX9_stands_146 : decode cX9_stands 146 = .ok (.iload 9, 2) := by decide +kernel
theorem dX9_stands_148 : decode cX9_stands 148 = .ok (.i2l, 1) := by decide +kernel
theorem dX9_stands_149 : decode cX9_stands 149 = .ok (.lmul, 1) := by decide +kernel
theorem dX9_stands_150 : decode cX9_stands 150 = .ok (.ladd, 1) := by decide +kernel
theorem dX9_stands_151 : decode cX9_stands 151 = .ok (.lastore, 1) := by decide +kernel
theorem dX9_stands_152 : decode cX9_stands 152 = .ok (.aload_n 0, 1) := by decide +kernel
theorem dX9_stands_153 : decode cX9_stands 153 = .ok (.getfield 96, 3) := by decide +kernel
theorem dX9_stands_156 : decode cX9_stands 156 = .ok (.iload 8, 2) := by decide +kernel
theorem dX9_stands_158 : decode cX9_stands 158 = .ok (.dup2, 1) := by decide +kernel
theorem dX9_stands_159 : decode cX9_stands 159 = .ok (.laload, 1) := by decide +kernel
theorem dX9_stands_160 : decode cX9_stands 160 = .ok (.bipush 10, 2) := by decide +kernel
theorem dX9_stands_162 : decode cX9_stands 162 = .ok (.iload 9, 2) := by decide +kernel
theorem dX9_stands_164 : decode cX9_stands 164 = .ok (.isub, 1) := by decide +kernel
theorem dX9_stands_165 : decode cX9_stands 165 = .ok (.i2l, 1) := by decide +kernel
theorem dX9_stands_166 : decode cX9_stands 166 = .ok (.lmul, 1) := by decide +kernel
theorem dX9_stands_167 : decode cX9_stands 167 = .ok (.lastore, 1) := by decide +kernel
theorem dX9_stands_168 : decode cX9_stands 168 = .ok (.iinc 8 (-1), 3) := by decide +kernel
theorem dX9_stands_171 : decode cX9_stands 171 = .ok (.goto (-77), 3) := by decide +kernel
theorem dX9_stands_174 : decode cX9_stands 174 = .ok (.lload 5, 2) := by decide +kernel
theorem dX9_stands_176 : decode cX9_stands 176 = .ok (.ldc2_w 253, 3) := by decide +kernel
theorem dX9_stands_179 : decode cX9_stands 179 = .ok (.lmul, 1) := by decide +kernel
theorem dX9_stands_180 : decode cX9_stands 180 = .ok (.lstore 5, 2) := by decide +kernel
theorem dX9_stands_182 : decode cX9_stands 182 = .ok (.iinc 7 1, 3) := by decide +kernel
theorem dX9_stands_185 : decode cX9_stands 185 = .ok (.goto (-100), 3) := by decide +kernel
theorem dX9_stands_188 : decode cX9_stands 188 = .ok (.aload_n 0, 1) := by decide +kernel
theorem dX9_stands_189 : decode cX9_stands 189 = .ok (.getfield 96, 3) := by decide +kernel
theorem dX9_stands_192 : decode cX9_stands 192 = .ok (.iload_n 3, 1) := by decide +kernel
theorem dX9_stands_193 : decode cX9_stands 193 = .ok (.laload, 1) := by decide +kernel
theorem dX9_stands_194 : decode cX9_stands 194 = .ok (.lload 5, 2) := by decide +kernel
theorem dX9_stands_196 : decode cX9_stands 196 = .ok (.iload 4, 2) := by decide +kernel
theorem dX9_stands_198 : decode cX9_stands 198 = .ok (.invokestatic 285, 3) := by decide +kernel
theorem dX9_stands_201 : decode cX9_stands 201 = .ok (.lreturn, 1) := by decide +kernel
theorem dX9_think_0 : decode cX9_think 0 = .ok (.aload_n 0, 1) := by decide +kernel
theorem dX9_think_1 : decode cX9_think 1 = .ok (.iload_n 1, 1) := by decide +kernel
theorem dX9_think_2 : decode cX9_think 2 = .ok (.putfield 289, 3) := by decide +kernel
theorem dX9_think_5 : decode cX9_think 5 = .ok (.iconst 0, 1) := by decide +kernel
theorem dX9_think_6 : decode cX9_think 6 = .ok (.istore_n 2, 1) := by decide +kernel
theorem dX9_think_7 : decode cX9_think 7 = .ok (.iload_n 2, 1) := by decide +kernel
theorem dX9_think_8 : decode cX9_think 8 = .ok (.iconst 4, 1) := by decide +kernel
theorem dX9_think_9 : decode cX9_think 9 = .ok (.if_icmp .ge 24, 3) := by decide +kernel
theorem dX9_think_12 : decode cX9_think 12 = .ok (.aload_n 0, 1) := by decide +kernel
theorem dX9_think_13 : decode cX9_think 13 = .ok (.getfield 100, 3) := by decide +kernel
theorem dX9_think_16 : decode cX9_think 16 = .ok (.iload_n 2, 1) := by decide +kernel
theorem dX9_think_17 : decode cX9_think 17 = .ok (.iload_n 2, 1) := by decide +kernel
theorem dX9_think_18 : decode cX9_think 18 = .ok (.ifCond .ne 7, 3) := by decide +kernel
theorem dX9_think_21 : decode cX9_think 21 = .ok (.lconst 1, 1) := by decide +kernel
theorem dX9_think_22 : decode cX9_think 22 = .ok (.goto 4, 3) := by decide +kernel
theorem dX9_think_25 : decode cX9_think 25 = .ok (.lconst 0, 1) := by decide +kernel
theorem dX9_think_26 : decode cX9_think 26 = .ok (.lastore, 1) := by decide +kernel
theorem dX9_think_27 : decode cX9_think 27 = .ok (.iinc 2 1, 3) := by decide +kernel
theorem dX9_think_30 : decode cX9_think 30 = .ok (.goto (-23), 3) := by decide +kernel
theorem dX9_think_33 : decode cX9_think 33 = .ok (.return_, 1) := by decide +kernel
theorem dX9_thought_0 : decode cX9_thought 0 = .ok (.iload_n 1, 1) := by decide +kernel
theorem dX9_thought_1 : decode cX9_thought 1 = .ok (.iconst 0, 1) := by decide +kernel
theorem dX9_thought_2 : decode cX9_thought 2 = .ok (.aload_n 0, 1) := by decide +kernel
theorem dX9_thought_3 : decode cX9_thought 3 = .ok (.getfield 13, 3) := by decide +kernel
theorem dX9_thought_6 : decode cX9_thought 6 = .ok (.iconst 0, 1) := by decide +kernel
theorem dX9_thought_7 : decode cX9_thought 7 = .ok (.iaload, 1) := by decide +kernel
theorem dX9_thought_8 : decode cX9_thought 8 = .ok (.iconst 1, 1) := by decide +kernel
theorem dX9_thought_9 : decode cX9_thought 9 = .ok (.isub, 1) := by decide +kernel
theorem dX9_thought_10 : decode cX9_thought 10 = .ok (.invokestatic 103, 3) := by decide +kernel
theorem dX9_thought_13 : decode cX9_thought 13 = .ok (.ifCond .ne 5, 3) := by decide +kernel
theorem dX9_thought_16 : decode cX9_thought 16 = .ok (.iconst (-1), 1) := by decide +kernel
theorem dX9_thought_17 : decode cX9_thought 17 = .ok (.ireturn, 1) := by decide +kernel
theorem dX9_thought_18 : decode cX9_thought 18 = .ok (.aload_n 0, 1) := by decide +kernel
theorem dX9_thought_19 : decode cX9_thought 19 = .ok (.iload_n 1, 1) := by decide +kernel
theorem dX9_thought_20 : decode cX9_thought 20 = .ok (.invokevirtual 157, 3) := by decide +kernel
theorem dX9_thought_23 : decode cX9_thought 23 = .ok (.iconst 1, 1) := by decide +kernel
theorem dX9_thought_24 : decode cX9_thought 24 = .ok (.ireturn, 1) := by decide +kernel
theorem dX9_settle_0 : decode cX9_settle 0 = .ok (.lconst 0, 1) := by decide +kernel
theorem dX9_settle_1 : decode cX9_settle 1 = .ok (.lstore_n 1, 1) := by decide +kernel
theorem dX9_settle_2 : decode cX9_settle 2 = .ok (.iconst 0, 1) := by decide +kernel
theorem dX9_settle_3 : decode cX9_settle 3 = .ok (.istore_n 3, 1) := by decide +kernel
theorem dX9_settle_4 : decode cX9_settle 4 = .ok (.iload_n 3, 1) := by decide +kernel
theorem dX9_settle_5 : decode cX9_settle 5 = .ok (.iconst 4, 1) := by decide +kernel
theorem dX9_settle_6 : decode cX9_settle 6 = .ok (.if_icmp .ge 22, 3) := by decide +kernel
theorem dX9_settle_9 : decode cX9_settle 9 = .ok (.aload_n 0, 1) := by decide +kernel
theorem dX9_settle_10 : decode cX9_settle 10 = .ok (.getfield 100, 3) := by decide +kernel
theorem dX9_settle_13 : decode cX9_settle 13 = .ok (.iconst 4, 1) := by decide +kernel
theorem dX9_settle_14 : decode cX9_settle 14 = .ok (.iload_n 3, 1) := by decide +kernel
theorem dX9_settle_15 : decode cX9_settle 15 = .ok (.iadd, 1) := by decide +kernel
theorem dX9_settle_16 : decode cX9_settle 16 = .ok (.laload, 1) := by decide +kernel
theorem dX9_settle_17 : decode cX9_settle 17 = .ok (.lload_n 1, 1) := by decide +kernel
theorem dX9_settle_18 : decode cX9_settle 18 = .ok (.invokestatic 279, 3) := by decide +kernel
theorem dX9_settle_21 : decode cX9_settle 21 = .ok (.lstore_n 1, 1) := by decide +kernel
theorem dX9_settle_22 : decode cX9_settle 22 = .ok (.iinc 3 1, 3) := by decide +kernel
theorem dX9_settle_25 : decode cX9_settle 25 = .ok (.goto (-21), 3) := by decide +kernel
theorem dX9_settle_28 : decode cX9_settle 28 = .ok (.lload_n 1, 1) := by decide +kernel
theorem dX9_settle_29 : decode cX9_settle 29 = .ok (.lconst 0, 1) := by decide +kernel
theorem dX9_settle_30 : decode cX9_settle 30 = .ok (.lcmp, 1) := by decide +kernel
theorem dX9_settle_31 : decode cX9_settle 31 = .ok (.ifCond .ne 6, 3) := by decide +kernel
theorem dX9_settle_34 : decode cX9_settle 34 = .ok (.bipush (-2), 2) := by decide +kernel
theorem dX9_settle_36 : decode cX9_settle 36 = .ok (.ireturn, 1) := by decide +kernel
theorem dX9_settle_37 : decode cX9_settle 37 = .ok (.iconst 0, 1) := by decide +kernel
theorem dX9_settle_38 : decode cX9_settle 38 = .ok (.istore_n 3, 1) := by decide +kernel
theorem dX9_settle_39 : decode cX9_settle 39 = .ok (.iload_n 3, 1) := by decide +kernel
theorem dX9_settle_40 : decode cX9_settle 40 = .ok (.iconst 4, 1) := by decide +kernel
theorem dX9_settle_41 : decode cX9_settle 41 = .ok (.if_icmp .ge 29, 3) := by decide +kernel
theorem dX9_settle_44 : decode cX9_settle 44 = .ok (.aload_n 0, 1) := by decide +kernel
theorem dX9_settle_45 : decode cX9_settle 45 = .ok (.getfield 100, 3) := by decide +kernel
theorem dX9_settle_48 : decode cX9_settle 48 = .ok (.iconst 4, 1) := by decide +kernel
theorem dX9_settle_49 : decode cX9_settle 49 = .ok (.iload_n 3, 1) := by decide +kernel
theorem dX9_settle_50 : decode cX9_settle 50 = .ok (.iadd, 1) := by decide +kernel
theorem dX9_settle_51 : decode cX9_settle 51 = .ok (.laload, 1) := by decide +kernel
theorem dX9_settle_52 : decode cX9_settle 52 = .ok (.lload_n 1, 1) := by decide +kernel
theorem dX9_settle_53 : decode cX9_settle 53 = .ok (.ldiv, 1) := by decide +kernel
theorem dX9_settle_54 : decode cX9_settle 54 = .ok (.ldc2_w 292, 3) := by decide +kernel
theorem dX9_settle_57 : decode cX9_settle 57 = .ok (.lcmp, 1) := by decide +kernel
theorem dX9_settle_58 : decode cX9_settle 58 = .ok (.ifCond .le 6, 3) := by decide +kernel
theorem dX9_settle_61 : decode cX9_settle 61 = .ok (.bipush (-3), 2) := by decide +kernel
theorem dX9_settle_63 : decode cX9_settle 63 = .ok (.ireturn, 1) := by decide +kernel
theorem dX9_settle_64 : decode cX9_settle 64 = .ok (.iinc 3 1, 3) := by decide +kernel
theorem dX9_settle_67 : decode cX9_settle 67 = .ok (.goto (-28), 3) := by decide +kernel
theorem dX9_settle_70 : decode cX9_settle 70 = .ok (.iconst 0, 1) := by decide +kernel
theorem dX9_settle_71 : decode cX9_settle 71 = .ok (.istore_n 3, 1) := by decide +kernel
theorem dX9_settle_72 : decode cX9_settle 72 = .ok (.iload_n 3, 1) := by decide +kernel
theorem dX9_settle_73 : decode cX9_settle 73 = .ok (.iconst 4, 1) := by decide +kernel
theorem dX9_settle_74 : decode cX9_settle 74 = .ok (.if_icmp .ge 25, 3) := by decide +kernel
theorem dX9_settle_77 : decode cX9_settle 77 = .ok (.aload_n 0, 1) := by decide +kernel
theorem dX9_settle_78 : decode cX9_settle 78 = .ok (.getfield 100, 3) := by decide +kernel
theorem dX9_settle_81 : decode cX9_settle 81 = .ok (.iload_n 3, 1) := by decide +kernel
theorem dX9_settle_82 : decode cX9_settle 82 = .ok (.aload_n 0, 1) := by decide +kernel
theorem dX9_settle_83 : decode cX9_settle 83 = .ok (.getfield 100, 3) := by decide +kernel
theorem dX9_settle_86 : decode cX9_settle 86 = .ok (.iconst 4, 1) := by decide +kernel
theorem dX9_settle_87 : decode cX9_settle 87 = .ok (.iload_n 3, 1) := by decide +kernel
theorem dX9_settle_88 : decode cX9_settle 88 = .ok (.iadd, 1) := by decide +kernel
theorem dX9_settle_89 : decode cX9_settle 89 = .ok (.laload, 1) := by decide +kernel
theorem dX9_settle_90 : decode cX9_settle 90 = .ok (.lload_n 1, 1) := by decide +kernel
theorem dX9_settle_91 : decode cX9_settle 91 = .ok (.ldiv, 1) := by decide +kernel
theorem dX9_settle_92 : decode cX9_settle 92 = .ok (.lastore, 1) := by decide +kernel
theorem dX9_settle_93 : decode cX9_settle 93 = .ok (.iinc 3 1, 3) := by decide +kernel
theorem dX9_settle_96 : decode cX9_settle 96 = .ok (.goto (-24), 3) := by decide +kernel
theorem dX9_settle_99 : decode cX9_settle 99 = .ok (.iconst 1, 1) := by decide +kernel
theorem dX9_settle_100 : decode cX9_settle 100 = .ok (.ireturn, 1) := by decide +kernel
theorem dX9_aged_0 : decode cX9_aged 0 = .ok (.aload_n 0, 1) := by decide +kernel
theorem dX9_aged_1 : decode cX9_aged 1 = .ok (.getfield 13, 3) := by decide +kernel
theorem dX9_aged_4 : decode cX9_aged 4 = .ok (.iconst 0, 1) := by decide +kernel
theorem dX9_aged_5 : decode cX9_aged 5 = .ok (.iaload, 1) := by decide +kernel
theorem dX9_aged_6 : decode cX9_aged 6 = .ok (.ifCond .ne 6, 3) := by decide +kernel
theorem dX9_aged_9 : decode cX9_aged 9 = .ok (.bipush (-2), 2) := by decide +kernel
theorem dX9_aged_11 : decode cX9_aged 11 = .ok (.ireturn, 1) := by decide +kernel
theorem dX9_aged_12 : decode cX9_aged 12 = .ok (.lconst 0, 1) := by decide +kernel
theorem dX9_aged_13 : decode cX9_aged 13 = .ok (.lstore_n 1, 1) := by decide +kernel
theorem dX9_aged_14 : decode cX9_aged 14 = .ok (.iconst 0, 1) := by decide +kernel
theorem dX9_aged_15 : decode cX9_aged 15 = .ok (.istore_n 3, 1) := by decide +kernel
theorem dX9_aged_16 : decode cX9_aged 16 = .ok (.iload_n 3, 1) := by decide +kernel
theorem dX9_aged_17 : decode cX9_aged 17 = .ok (.iconst 4, 1) := by decide +kernel
theorem dX9_aged_18 : decode cX9_aged 18 = .ok (.if_icmp .ge 70, 3) := by decide +kernel
theorem dX9_aged_21 : decode cX9_aged 21 = .ok (.iload_n 3, 1) := by decide +kernel
theorem dX9_aged_22 : decode cX9_aged 22 = .ok (.iconst 3, 1) := by decide +kernel
theorem dX9_aged_23 : decode cX9_aged 23 = .ok (.if_icmp .ne 7, 3) := by decide +kernel
theorem dX9_aged_26 : decode cX9_aged 26 = .ok (.lconst 0, 1) := by decide +kernel
theorem dX9_aged_27 : decode cX9_aged 27 = .ok (.goto 20, 3) := by decide +kernel
theorem dX9_aged_30 : decode cX9_aged 30 = .ok (.aload_n 0, 1) := by decide +kernel
theorem dX9_aged_31 : decode cX9_aged 31 = .ok (.getfield 26, 3) := by decide +kernel
theorem dX9_aged_34 : decode cX9_aged 34 = .ok (.bipush 14, 2) := by decide +kernel
theorem dX9_aged_36 : decode cX9_aged 36 = .ok (.aload_n 0, 1) := by decide +kernel
theorem dX9_aged_37 : decode cX9_aged 37 = .ok (.getfield 289, 3) := by decide +kernel
theorem dX9_aged_40 : decode cX9_aged 40 = .ok (.imul, 1) := by decide +kernel
theorem dX9_aged_41 : decode cX9_aged 41 = .ok (.iconst 4, 1) := by decide +kernel
theorem dX9_aged_42 : decode cX9_aged 42 = .ok (.iadd, 1) := by decide +kernel
theorem dX9_aged_43 : decode cX9_aged 43 = .ok (.iload_n 3, 1) := by decide +kernel
theorem dX9_aged_44 : decode cX9_aged 44 = .ok (.iadd, 1) := by decide +kernel
theorem dX9_aged_45 : decode cX9_aged 45 = .ok (.iaload, 1) := by decide +kernel
theorem dX9_aged_46 : decode cX9_aged 46 = .ok (.i2l, 1) := by decide +kernel
theorem dX9_aged_47 : decode cX9_aged 47 = .ok (.lstore 4, 2) := by decide +kernel
theorem dX9_aged_49 : decode cX9_aged 49 = .ok (.aload_n 0, 1) := by decide +kernel
theorem dX9_aged_50 : decode cX9_aged 50 = .ok (.getfield 100, 3) := by decide +kernel
theorem dX9_aged_53 : decode cX9_aged 53 = .ok (.iconst 4, 1) := by decide +kernel
theorem dX9_aged_54 : decode cX9_aged 54 = .ok (.iload_n 3, 1) := by decide +kernel
theorem dX9_aged_55 : decode cX9_aged 55 = .ok (.iadd, 1) := by decide +kernel
theorem dX9_aged_56 : decode cX9_aged 56 = .ok (.lload_n 1, 1) := by decide +kernel
theorem dX9_aged_57 : decode cX9_aged 57 = .ok (.aload_n 0, 1) := by decide +kernel
theorem dX9_aged_58 : decode cX9_aged 58 = .ok (.getfield 100, 3) := by decide +kernel
theorem dX9_aged_61 : decode cX9_aged 61 = .ok (.iload_n 3, 1) := by decide +kernel
theorem dX9_aged_62 : decode cX9_aged 62 = .ok (.laload, 1) := by decide +kernel
theorem dX9_aged_63 : decode cX9_aged 63 = .ok (.ldc2_w 253, 3) := by decide +kernel
theorem dX9_aged_66 : decode cX9_aged 66 = .ok (.lload 4, 2) := by decide +kernel
theorem dX9_aged_68 : decode cX9_aged 68 = .ok (.lsub, 1) := by decide +kernel
theorem dX9_aged_69 : decode cX9_aged 69 = .ok (.lmul, 1) := by decide +kernel
theorem dX9_aged_70 : decode cX9_aged 70 = .ok (.ladd, 1) := by decide +kernel
theorem dX9_aged_71 : decode cX9_aged 71 = .ok (.lastore, 1) := by decide +kernel
theorem dX9_aged_72 : decode cX9_aged 72 = .ok (.aload_n 0, 1) := by decide +kernel
theorem dX9_aged_73 : decode cX9_aged 73 = .ok (.getfield 100, 3) := by decide +kernel
theorem dX9_aged_76 : decode cX9_aged 76 = .ok (.iload_n 3, 1) := by decide +kernel
theorem dX9_aged_77 : decode cX9_aged 77 = .ok (.laload, 1) := by decide +kernel
theorem dX9_aged_78 : decode cX9_aged 78 = .ok (.lload 4, 2) := by decide +kernel
theorem dX9_aged_80 : decode cX9_aged 80 = .ok (.lmul, 1) := by decide +kernel
theorem dX9_aged_81 : decode cX9_aged 81 = .ok (.lstore_n 1, 1) := by decide +kernel
theorem dX9_aged_82 : decode cX9_aged 82 = .ok (.iinc 3 1, 3) := by decide +kernel
theorem dX9_aged_85 : decode cX9_aged 85 = .ok (.goto (-69), 3) := by decide +kernel
theorem dX9_aged_88 : decode cX9_aged 88 = .ok (.aload_n 0, 1) := by decide +kernel
theorem dX9_aged_89 : decode cX9_aged 89 = .ok (.invokevirtual 294, 3) := by decide +kernel
theorem dX9_aged_92 : decode cX9_aged 92 = .ok (.ireturn, 1) := by decide +kernel
theorem dX9_shown_0 : decode cX9_shown 0 = .ok (.iload_n 1, 1) := by decide +kernel
theorem dX9_shown_1 : decode cX9_shown 1 = .ok (.iconst 0, 1) := by decide +kernel
theorem dX9_shown_2 : decode cX9_shown 2 = .ok (.iconst 1, 1) := by decide +kernel
theorem dX9_shown_3 : decode cX9_shown 3 = .ok (.invokestatic 103, 3) := by decide +kernel
theorem dX9_shown_6 : decode cX9_shown 6 = .ok (.ifCond .ne 5, 3) := by decide +kernel
theorem dX9_shown_9 : decode cX9_shown 9 = .ok (.iconst (-1), 1) := by decide +kernel
theorem dX9_shown_10 : decode cX9_shown 10 = .ok (.ireturn, 1) := by decide +kernel
theorem dX9_shown_11 : decode cX9_shown 11 = .ok (.aload_n 0, 1) := by decide +kernel
theorem dX9_shown_12 : decode cX9_shown 12 = .ok (.getfield 13, 3) := by decide +kernel
theorem dX9_shown_15 : decode cX9_shown 15 = .ok (.iconst 0, 1) := by decide +kernel
theorem dX9_shown_16 : decode cX9_shown 16 = .ok (.iaload, 1) := by decide +kernel
theorem dX9_shown_17 : decode cX9_shown 17 = .ok (.ifCond .ne 6, 3) := by decide +kernel
theorem dX9_shown_20 : decode cX9_shown 20 = .ok (.bipush (-2), 2) := by decide +kernel
theorem dX9_shown_22 : decode cX9_shown 22 = .ok (.ireturn, 1) := by decide +kernel
theorem dX9_shown_23 : decode cX9_shown 23 = .ok (.iconst 0, 1) := by decide +kernel
theorem dX9_shown_24 : decode cX9_shown 24 = .ok (.istore_n 2, 1) := by decide +kernel
theorem dX9_shown_25 : decode cX9_shown 25 = .ok (.iload_n 2, 1) := by decide +kernel
theorem dX9_shown_26 : decode cX9_shown 26 = .ok (.iconst 4, 1) := by decide +kernel
theorem dX9_shown_27 : decode cX9_shown 27 = .ok (.if_icmp .ge 57, 3) := by decide +kernel
theorem dX9_shown_30 : decode cX9_shown 30 = .ok (.aload_n 0, 1) := by decide +kernel
theorem dX9_shown_31 : decode cX9_shown 31 = .ok (.getfield 26, 3) := by decide +kernel
theorem dX9_shown_34 : decode cX9_shown 34 = .ok (.bipush 14, 2) := by decide +kernel
theorem dX9_shown_36 : decode cX9_shown 36 = .ok (.aload_n 0, 1) := by decide +kernel
theorem dX9_shown_37 : decode cX9_shown 37 = .ok (.getfield 289, 3) := by decide +kernel
theorem dX9_shown_40 : decode cX9_shown 40 = .ok (.imul, 1) := by decide +kernel
theorem dX9_shown_41 : decode cX9_shown 41 = .ok (.bipush 10, 2) := by decide +kernel
theorem dX9_shown_43 : decode cX9_shown 43 = .ok (.iadd, 1) := by decide +kernel
theorem dX9_shown_44 : decode cX9_shown 44 = .ok (.iload_n 2, 1) := by decide +kernel
theorem dX9_shown_45 : decode cX9_shown 45 = .ok (.iadd, 1) := by decide +kernel
theorem dX9_shown_46 : decode cX9_shown 46 = .ok (.iaload, 1) := by decide +kernel
theorem dX9_shown_47 : decode cX9_shown 47 = .ok (.i2l, 1) := by decide +kernel
theorem dX9_shown_48 : decode cX9_shown 48 = .ok (.lstore_n 3, 1) := by decide +kernel
theorem dX9_shown_49 : decode cX9_shown 49 = .ok (.aload_n 0, 1) := by decide +kernel
theorem dX9_shown_50 : decode cX9_shown 50 = .ok (.getfield 100, 3) := by decide +kernel
theorem dX9_shown_53 : decode cX9_shown 53 = .ok (.iconst 4, 1) := by decide +kernel
theorem dX9_shown_54 : decode cX9_shown 54 = .ok (.iload_n 2, 1) := by decide +kernel
theorem dX9_shown_55 : decode cX9_shown 55 = .ok (.iadd, 1) := by decide +kernel
theorem dX9_shown_56 : decode cX9_shown 56 = .ok (.aload_n 0, 1) := by decide +kernel
theorem dX9_shown_57 : decode cX9_shown 57 = .ok (.getfield 100, 3) := by decide +kernel
theorem dX9_shown_60 : decode cX9_shown 60 = .ok (.iload_n 2, 1) := by decide +kernel
theorem dX9_shown_61 : decode cX9_shown 61 = .ok (.laload, 1) := by decide +kernel
theorem dX9_shown_62 : decode cX9_shown 62 = .ok (.iload_n 1, 1) := by decide +kernel
theorem dX9_shown_63 : decode cX9_shown 63 = .ok (.iconst 1, 1) := by decide +kernel
theorem dX9_shown_64 : decode cX9_shown 64 = .ok (.if_icmp .ne 7, 3) := by decide +kernel
theorem dX9_shown_67 : decode cX9_shown 67 = .ok (.lload_n 3, 1) := by decide +kernel
theorem dX9_shown_68 : decode cX9_shown 68 = .ok (.goto 8, 3) := by decide +kernel
theorem dX9_shown_71 : decode cX9_shown 71 = .ok (.ldc2_w 253, 3) := by decide +kernel
theorem dX9_shown_74 : decode cX9_shown 74 = .ok (.lload_n 3, 1) := by decide +kernel
theorem dX9_shown_75 : decode cX9_shown 75 = .ok (.lsub, 1) := by decide +kernel
theorem dX9_shown_76 : decode cX9_shown 76 = .ok (.lmul, 1) := by decide +kernel
theorem dX9_shown_77 : decode cX9_shown 77 = .ok (.lastore, 1) := by decide +kernel
theorem dX9_shown_78 : decode cX9_shown 78 = .ok (.iinc 2 1, 3) := by decide +kernel
theorem dX9_shown_81 : decode cX9_shown 81 = .ok (.goto (-56), 3) := by decide +kernel
theorem dX9_shown_84 : decode cX9_shown 84 = .ok (.aload_n 0, 1) := by decide +kernel
theorem dX9_shown_85 : decode cX9_shown 85 = .ok (.invokevirtual 294, 3) := by decide +kernel
theorem dX9_shown_88 : decode cX9_shown 88 = .ok (.ireturn, 1) := by decide +kernel
theorem dX9_thinks_0 : decode cX9_thinks 0 = .ok (.iload_n 1, 1) := by decide +kernel
theorem dX9_thinks_1 : decode cX9_thinks 1 = .ok (.iconst 0, 1) := by decide +kernel
theorem dX9_thinks_2 : decode cX9_thinks 2 = .ok (.iconst 4, 1) := by decide +kernel
theorem dX9_thinks_3 : decode cX9_thinks 3 = .ok (.invokestatic 103, 3) := by decide +kernel
theorem dX9_thinks_6 : decode cX9_thinks 6 = .ok (.ifCond .eq 21, 3) := by decide +kernel
theorem dX9_thinks_9 : decode cX9_thinks 9 = .ok (.iload_n 2, 1) := by decide +kernel
theorem dX9_thinks_10 : decode cX9_thinks 10 = .ok (.iconst 0, 1) := by decide +kernel
theorem dX9_thinks_11 : decode cX9_thinks 11 = .ok (.iconst 1, 1) := by decide +kernel
theorem dX9_thinks_12 : decode cX9_thinks 12 = .ok (.invokestatic 103, 3) := by decide +kernel
theorem dX9_thinks_15 : decode cX9_thinks 15 = .ok (.ifCond .eq 12, 3) := by decide +kernel
theorem dX9_thinks_18 : decode cX9_thinks 18 = .ok (.aload_n 0, 1) := by decide +kernel
theorem dX9_thinks_19 : decode cX9_thinks 19 = .ok (.getfield 13, 3) := by decide +kernel
theorem dX9_thinks_22 : decode cX9_thinks 22 = .ok (.iconst 0, 1) := by decide +kernel
theorem dX9_thinks_23 : decode cX9_thinks 23 = .ok (.iaload, 1) := by decide +kernel
theorem dX9_thinks_24 : decode cX9_thinks 24 = .ok (.ifCond .ne 7, 3) := by decide +kernel
theorem dX9_thinks_27 : decode cX9_thinks 27 = .ok (.ldc2_w 283, 3) := by decide +kernel
theorem dX9_thinks_30 : decode cX9_thinks 30 = .ok (.lreturn, 1) := by decide +kernel
theorem dX9_thinks_31 : decode cX9_thinks 31 = .ok (.lconst 0, 1) := by decide +kernel
theorem dX9_thinks_32 : decode cX9_thinks 32 = .ok (.lstore_n 3, 1) := by decide +kernel
theorem dX9_thinks_33 : decode cX9_thinks 33 = .ok (.lconst 0, 1) := by decide +kernel
theorem dX9_thinks_34 : decode cX9_thinks 34 = .ok (.lstore 5, 2) := by decide +kernel
theorem dX9_thinks_36 : decode cX9_thinks 36 = .ok (.iconst 0, 1) := by decide +kernel
theorem dX9_thinks_37 : decode cX9_thinks 37 = .ok (.istore 7, 2) := by decide +kernel
theorem dX9_thinks_39 : decode cX9_thinks 39 = .ok (.iload 7, 2) := by decide +kernel
theorem dX9_thinks_41 : decode cX9_thinks 41 = .ok (.iconst 4, 1) := by decide +kernel
theorem dX9_thinks_42 : decode cX9_thinks 42 = .ok (.if_icmp .ge 48, 3) := by decide +kernel
theorem dX9_thinks_45 : decode cX9_thinks 45 = .ok (.lload_n 3, 1) := by decide +kernel
theorem dX9_thinks_46 : decode cX9_thinks 46 = .ok (.aload_n 0, 1) := by decide +kernel
theorem dX9_thinks_47 : decode cX9_thinks 47 = .ok (.getfield 100, 3) := by decide +kernel
theorem dX9_thinks_50 : decode cX9_thinks 50 = .ok (.iload 7, 2) := by decide +kernel
theorem dX9_thinks_52 : decode cX9_thinks 52 = .ok (.laload, 1) := by decide +kernel
theorem dX9_thinks_53 : decode cX9_thinks 53 = .ok (.ladd, 1) := by decide +kernel
theorem dX9_thinks_54 : decode cX9_thinks 54 = .ok (.lstore_n 3, 1) := by decide +kernel
theorem dX9_thinks_55 : decode cX9_thinks 55 = .ok (.lload 5, 2) := by decide +kernel
theorem dX9_thinks_57 : decode cX9_thinks 57 = .ok (.aload_n 0, 1) := by decide +kernel
theorem dX9_thinks_58 : decode cX9_thinks 58 = .ok (.getfield 100, 3) := by decide +kernel
theorem dX9_thinks_61 : decode cX9_thinks 61 = .ok (.iload 7, 2) := by decide +kernel
theorem dX9_thinks_63 : decode cX9_thinks 63 = .ok (.laload, 1) := by decide +kernel
theorem dX9_thinks_64 : decode cX9_thinks 64 = .ok (.aload_n 0, 1) := by decide +kernel
theorem dX9_thinks_65 : decode cX9_thinks 65 = .ok (.getfield 26, 3) := by decide +kernel
theorem dX9_thinks_68 : decode cX9_thinks 68 = .ok (.bipush 14, 2) := by decide +kernel
theorem dX9_thinks_70 : decode cX9_thinks 70 = .ok (.aload_n 0, 1) := by decide +kernel
theorem dX9_thinks_71 : decode cX9_thinks 71 = .ok (.getfield 289, 3) := by decide +kernel
theorem dX9_thinks_74 : decode cX9_thinks 74 = .ok (.imul, 1) := by decide +kernel
theorem dX9_thinks_75 : decode cX9_thinks 75 = .ok (.iload 7, 2) := by decide +kernel
theorem dX9_thinks_77 : decode cX9_thinks 77 = .ok (.iadd, 1) := by decide +kernel
theorem dX9_thinks_78 : decode cX9_thinks 78 = .ok (.iaload, 1) := by decide +kernel
theorem dX9_thinks_79 : decode cX9_thinks 79 = .ok (.i2l, 1) := by decide +kernel
theorem dX9_thinks_80 : decode cX9_thinks 80 = .ok (.lmul, 1) := by decide +kernel
theorem dX9_thinks_81 : decode cX9_thinks 81 = .ok (.ladd, 1) := by decide +kernel
theorem dX9_thinks_82 : decode cX9_thinks 82 = .ok (.lstore 5, 2) := by decide +kernel
theorem dX9_thinks_84 : decode cX9_thinks 84 = .ok (.iinc 7 1, 3) := by decide +kernel
theorem dX9_thinks_87 : decode cX9_thinks 87 = .ok (.goto (-48), 3) := by decide +kernel
theorem dX9_thinks_90 : decode cX9_thinks 90 = .ok (.iload_n 1, 1) := by decide +kernel
theorem dX9_thinks_91 : decode cX9_thinks 91 = .ok (.iconst 4, 1) := by decide +kernel
theorem dX9_thinks_92 : decode cX9_thinks 92 = .ok (.if_icmp .ne 8, 3) := by decide +kernel
theorem dX9_thinks_95 : decode cX9_thinks 95 = .ok (.lload 5, 2) := by decide +kernel
theorem dX9_thinks_97 : decode cX9_thinks 97 = .ok (.goto 9, 3) := by decide +kernel
theorem dX9_thinks_100 : decode cX9_thinks 100 = .ok (.aload_n 0, 1) := by decide +kernel
end
section
theorem dX9_thinks_101 : decode cX9_thinks 101 = .ok (.getfield 100, 3) := by decide +kernel
theorem dX9_thinks_104 : decode cX9_thinks 104 = .ok (.iload_n 1, 1) := by decide +kernel
theorem dX9_thinks_105 : decode cX9_thinks 105 = .ok (.laload, 1) := by decide +kernel
theorem dX9_thinks_106 : decode cX9_thinks 106 = .ok (.lload_n 3, 1) := by decide +kernel
theorem dX9_thinks_107 : decode cX9_thinks 107 = .ok (.iload_n 2, 1) := by decide +kernel
theorem dX9_thinks_108 : decode cX9_thinks 108 = .ok (.invokestatic 285, 3) := by decide +kernel
theorem dX9_thinks_111 : decode cX9_thinks 111 = .ok (.lreturn, 1) := by decide +kernel
theorem dX9_note_0 : decode cX9_note 0 = .ok (.iload_n 1, 1) := by decide +kernel
theorem dX9_note_1 : decode cX9_note 1 = .ok (.iconst 0, 1) := by decide +kernel
theorem dX9_note_2 : decode cX9_note 2 = .ok (.iconst 5, 1) := by decide +kernel
theorem dX9_note_3 : decode cX9_note 3 = .ok (.invokestatic 103, 3) := by decide +kernel
theorem dX9_note_6 : decode cX9_note 6 = .ok (.ifCond .eq 11, 3) := by decide +kernel
theorem dX9_note_9 : decode cX9_note 9 = .ok (.aload_n 0, 1) := by decide +kernel
theorem dX9_note_10 : decode cX9_note 10 = .ok (.iload_n 2, 1) := by decide +kernel
theorem dX9_note_11 : decode cX9_note 11 = .ok (.invokevirtual 164, 3) := by decide +kernel
theorem dX9_note_14 : decode cX9_note 14 = .ok (.ifCond .ne 6, 3) := by decide +kernel
theorem dX9_note_17 : decode cX9_note 17 = .ok (.ldc 242, 2) := by decide +kernel
theorem dX9_note_19 : decode cX9_note 19 = .ok (.ireturn, 1) := by decide +kernel
theorem dX9_note_20 : decode cX9_note 20 = .ok (.aload_n 0, 1) := by decide +kernel
theorem dX9_note_21 : decode cX9_note 21 = .ok (.getfield 60, 3) := by decide +kernel
theorem dX9_note_24 : decode cX9_note 24 = .ok (.iload_n 2, 1) := by decide +kernel
theorem dX9_note_25 : decode cX9_note 25 = .ok (.iaload, 1) := by decide +kernel
theorem dX9_note_26 : decode cX9_note 26 = .ok (.istore_n 3, 1) := by decide +kernel
theorem dX9_note_27 : decode cX9_note 27 = .ok (.aload_n 0, 1) := by decide +kernel
theorem dX9_note_28 : decode cX9_note 28 = .ok (.getfield 57, 3) := by decide +kernel
theorem dX9_note_31 : decode cX9_note 31 = .ok (.iload_n 2, 1) := by decide +kernel
theorem dX9_note_32 : decode cX9_note 32 = .ok (.iaload, 1) := by decide +kernel
theorem dX9_note_33 : decode cX9_note 33 = .ok (.istore 4, 2) := by decide +kernel
theorem dX9_note_35 : decode cX9_note 35 = .ok (.aload_n 0, 1) := by decide +kernel
theorem dX9_note_36 : decode cX9_note 36 = .ok (.iload_n 2, 1) := by decide +kernel
theorem dX9_note_37 : decode cX9_note 37 = .ok (.iload 4, 2) := by decide +kernel
theorem dX9_note_39 : decode cX9_note 39 = .ok (.invokevirtual 168, 3) := by decide +kernel
theorem dX9_note_42 : decode cX9_note 42 = .ok (.istore 5, 2) := by decide +kernel
theorem dX9_note_44 : decode cX9_note 44 = .ok (.iload_n 1, 1) := by decide +kernel
theorem dX9_note_45 : decode cX9_note 45 = .ok (.tableswitch 135 0 4 #[35, 47, 64, 81, 119], 35) := by decide +kernel
theorem dX9_note_80 : decode cX9_note 80 = .ok (.aload_n 0, 1) := by decide +kernel
theorem dX9_note_81 : decode cX9_note 81 = .ok (.dup, 1) := by decide +kernel
theorem dX9_note_82 : decode cX9_note 82 = .ok (.getfield 297, 3) := by decide +kernel
theorem dX9_note_85 : decode cX9_note 85 = .ok (.lconst 1, 1) := by decide +kernel
theorem dX9_note_86 : decode cX9_note 86 = .ok (.ladd, 1) := by decide +kernel
theorem dX9_note_87 : decode cX9_note 87 = .ok (.putfield 297, 3) := by decide +kernel
theorem dX9_note_90 : decode cX9_note 90 = .ok (.iload_n 3, 1) := by decide +kernel
theorem dX9_note_91 : decode cX9_note 91 = .ok (.ireturn, 1) := by decide +kernel
theorem dX9_note_92 : decode cX9_note 92 = .ok (.aload_n 0, 1) := by decide +kernel
theorem dX9_note_93 : decode cX9_note 93 = .ok (.dup, 1) := by decide +kernel
theorem dX9_note_94 : decode cX9_note 94 = .ok (.getfield 297, 3) := by decide +kernel
theorem dX9_note_97 : decode cX9_note 97 = .ok (.ldc2_w 301, 3) := by decide +kernel
theorem dX9_note_100 : decode cX9_note 100 = .ok (.ladd, 1) := by decide +kernel
theorem dX9_note_101 : decode cX9_note 101 = .ok (.putfield 297, 3) := by decide +kernel
theorem dX9_note_104 : decode cX9_note 104 = .ok (.iload_n 3, 1) := by decide +kernel
theorem dX9_note_105 : decode cX9_note 105 = .ok (.iload 4, 2) := by decide +kernel
theorem dX9_note_107 : decode cX9_note 107 = .ok (.iadd, 1) := by decide +kernel
theorem dX9_note_108 : decode cX9_note 108 = .ok (.ireturn, 1) := by decide +kernel
theorem dX9_note_109 : decode cX9_note 109 = .ok (.aload_n 0, 1) := by decide +kernel
theorem dX9_note_110 : decode cX9_note 110 = .ok (.dup, 1) := by decide +kernel
theorem dX9_note_111 : decode cX9_note 111 = .ok (.getfield 297, 3) := by decide +kernel
theorem dX9_note_114 : decode cX9_note 114 = .ok (.ldc2_w 303, 3) := by decide +kernel
theorem dX9_note_117 : decode cX9_note 117 = .ok (.ladd, 1) := by decide +kernel
theorem dX9_note_118 : decode cX9_note 118 = .ok (.putfield 297, 3) := by decide +kernel
theorem dX9_note_121 : decode cX9_note 121 = .ok (.iload_n 3, 1) := by decide +kernel
theorem dX9_note_122 : decode cX9_note 122 = .ok (.iload 5, 2) := by decide +kernel
theorem dX9_note_124 : decode cX9_note 124 = .ok (.imul, 1) := by decide +kernel
theorem dX9_note_125 : decode cX9_note 125 = .ok (.ireturn, 1) := by decide +kernel
theorem dX9_note_126 : decode cX9_note 126 = .ok (.aload_n 0, 1) := by decide +kernel
theorem dX9_note_127 : decode cX9_note 127 = .ok (.dup, 1) := by decide +kernel
theorem dX9_note_128 : decode cX9_note 128 = .ok (.getfield 297, 3) := by decide +kernel
theorem dX9_note_131 : decode cX9_note 131 = .ok (.ldc2_w 305, 3) := by decide +kernel
theorem dX9_note_134 : decode cX9_note 134 = .ok (.ladd, 1) := by decide +kernel
theorem dX9_note_135 : decode cX9_note 135 = .ok (.putfield 297, 3) := by decide +kernel
theorem dX9_note_138 : decode cX9_note 138 = .ok (.iload_n 3, 1) := by decide +kernel
theorem dX9_note_139 : decode cX9_note 139 = .ok (.iload 5, 2) := by decide +kernel
theorem dX9_note_141 : decode cX9_note 141 = .ok (.imul, 1) := by decide +kernel
theorem dX9_note_142 : decode cX9_note 142 = .ok (.aload_n 0, 1) := by decide +kernel
theorem dX9_note_143 : decode cX9_note 143 = .ok (.getfield 26, 3) := by decide +kernel
theorem dX9_note_146 : decode cX9_note 146 = .ok (.bipush 14, 2) := by decide +kernel
theorem dX9_note_148 : decode cX9_note 148 = .ok (.aload_n 0, 1) := by decide +kernel
theorem dX9_note_149 : decode cX9_note 149 = .ok (.getfield 29, 3) := by decide +kernel
theorem dX9_note_152 : decode cX9_note 152 = .ok (.iload_n 2, 1) := by decide +kernel
theorem dX9_note_153 : decode cX9_note 153 = .ok (.iaload, 1) := by decide +kernel
theorem dX9_note_154 : decode cX9_note 154 = .ok (.imul, 1) := by decide +kernel
theorem dX9_note_155 : decode cX9_note 155 = .ok (.bipush 10, 2) := by decide +kernel
theorem dX9_note_157 : decode cX9_note 157 = .ok (.iadd, 1) := by decide +kernel
theorem dX9_note_158 : decode cX9_note 158 = .ok (.iload 4, 2) := by decide +kernel
theorem dX9_note_160 : decode cX9_note 160 = .ok (.iadd, 1) := by decide +kernel
theorem dX9_note_161 : decode cX9_note 161 = .ok (.iaload, 1) := by decide +kernel
theorem dX9_note_162 : decode cX9_note 162 = .ok (.iadd, 1) := by decide +kernel
theorem dX9_note_163 : decode cX9_note 163 = .ok (.ireturn, 1) := by decide +kernel
theorem dX9_note_164 : decode cX9_note 164 = .ok (.aload_n 0, 1) := by decide +kernel
theorem dX9_note_165 : decode cX9_note 165 = .ok (.dup, 1) := by decide +kernel
theorem dX9_note_166 : decode cX9_note 166 = .ok (.getfield 297, 3) := by decide +kernel
theorem dX9_note_169 : decode cX9_note 169 = .ok (.ldc2_w 307, 3) := by decide +kernel
theorem dX9_note_172 : decode cX9_note 172 = .ok (.ladd, 1) := by decide +kernel
theorem dX9_note_173 : decode cX9_note 173 = .ok (.putfield 297, 3) := by decide +kernel
theorem dX9_note_176 : decode cX9_note 176 = .ok (.iload_n 3, 1) := by decide +kernel
theorem dX9_note_177 : decode cX9_note 177 = .ok (.iload_n 2, 1) := by decide +kernel
theorem dX9_note_178 : decode cX9_note 178 = .ok (.isub, 1) := by decide +kernel
theorem dX9_note_179 : decode cX9_note 179 = .ok (.ireturn, 1) := by decide +kernel
theorem dX9_note_180 : decode cX9_note 180 = .ok (.aload_n 0, 1) := by decide +kernel
theorem dX9_note_181 : decode cX9_note 181 = .ok (.dup, 1) := by decide +kernel
theorem dX9_note_182 : decode cX9_note 182 = .ok (.getfield 297, 3) := by decide +kernel
theorem dX9_note_185 : decode cX9_note 185 = .ok (.ldc2_w 309, 3) := by decide +kernel
theorem dX9_note_188 : decode cX9_note 188 = .ok (.ladd, 1) := by decide +kernel
theorem dX9_note_189 : decode cX9_note 189 = .ok (.putfield 297, 3) := by decide +kernel
theorem dX9_note_192 : decode cX9_note 192 = .ok (.iconst 3, 1) := by decide +kernel
theorem dX9_note_193 : decode cX9_note 193 = .ok (.iload_n 3, 1) := by decide +kernel
theorem dX9_note_194 : decode cX9_note 194 = .ok (.iload 4, 2) := by decide +kernel
theorem dX9_note_196 : decode cX9_note 196 = .ok (.iadd, 1) := by decide +kernel
theorem dX9_note_197 : decode cX9_note 197 = .ok (.imul, 1) := by decide +kernel
theorem dX9_note_198 : decode cX9_note 198 = .ok (.ireturn, 1) := by decide +kernel
theorem dX9_copy_0 : decode cX9_copy 0 = .ok (.aload_n 0, 1) := by decide +kernel
theorem dX9_copy_1 : decode cX9_copy 1 = .ok (.getfield 41, 3) := by decide +kernel
theorem dX9_copy_4 : decode cX9_copy 4 = .ok (.iload_n 2, 1) := by decide +kernel
theorem dX9_copy_5 : decode cX9_copy 5 = .ok (.aload_n 0, 1) := by decide +kernel
theorem dX9_copy_6 : decode cX9_copy 6 = .ok (.getfield 41, 3) := by decide +kernel
theorem dX9_copy_9 : decode cX9_copy 9 = .ok (.iload_n 1, 1) := by decide +kernel
theorem dX9_copy_10 : decode cX9_copy 10 = .ok (.iaload, 1) := by decide +kernel
theorem dX9_copy_11 : decode cX9_copy 11 = .ok (.iastore, 1) := by decide +kernel
theorem dX9_copy_12 : decode cX9_copy 12 = .ok (.aload_n 0, 1) := by decide +kernel
theorem dX9_copy_13 : decode cX9_copy 13 = .ok (.getfield 44, 3) := by decide +kernel
theorem dX9_copy_16 : decode cX9_copy 16 = .ok (.iload_n 2, 1) := by decide +kernel
theorem dX9_copy_17 : decode cX9_copy 17 = .ok (.aload_n 0, 1) := by decide +kernel
theorem dX9_copy_18 : decode cX9_copy 18 = .ok (.getfield 44, 3) := by decide +kernel
theorem dX9_copy_21 : decode cX9_copy 21 = .ok (.iload_n 1, 1) := by decide +kernel
theorem dX9_copy_22 : decode cX9_copy 22 = .ok (.baload, 1) := by decide +kernel
theorem dX9_copy_23 : decode cX9_copy 23 = .ok (.bastore, 1) := by decide +kernel
theorem dX9_copy_24 : decode cX9_copy 24 = .ok (.aload_n 0, 1) := by decide +kernel
theorem dX9_copy_25 : decode cX9_copy 25 = .ok (.getfield 48, 3) := by decide +kernel
theorem dX9_copy_28 : decode cX9_copy 28 = .ok (.iload_n 2, 1) := by decide +kernel
theorem dX9_copy_29 : decode cX9_copy 29 = .ok (.aload_n 0, 1) := by decide +kernel
theorem dX9_copy_30 : decode cX9_copy 30 = .ok (.getfield 48, 3) := by decide +kernel
theorem dX9_copy_33 : decode cX9_copy 33 = .ok (.iload_n 1, 1) := by decide +kernel
theorem dX9_copy_34 : decode cX9_copy 34 = .ok (.iaload, 1) := by decide +kernel
theorem dX9_copy_35 : decode cX9_copy 35 = .ok (.iastore, 1) := by decide +kernel
theorem dX9_copy_36 : decode cX9_copy 36 = .ok (.aload_n 0, 1) := by decide +kernel
theorem dX9_copy_37 : decode cX9_copy 37 = .ok (.getfield 51, 3) := by decide +kernel
theorem dX9_copy_40 : decode cX9_copy 40 = .ok (.iload_n 2, 1) := by decide +kernel
theorem dX9_copy_41 : decode cX9_copy 41 = .ok (.aload_n 0, 1) := by decide +kernel
theorem dX9_copy_42 : decode cX9_copy 42 = .ok (.getfield 51, 3) := by decide +kernel
theorem dX9_copy_45 : decode cX9_copy 45 = .ok (.iload_n 1, 1) := by decide +kernel
theorem dX9_copy_46 : decode cX9_copy 46 = .ok (.iaload, 1) := by decide +kernel
theorem dX9_copy_47 : decode cX9_copy 47 = .ok (.iastore, 1) := by decide +kernel
theorem dX9_copy_48 : decode cX9_copy 48 = .ok (.aload_n 0, 1) := by decide +kernel
theorem dX9_copy_49 : decode cX9_copy 49 = .ok (.getfield 54, 3) := by decide +kernel
theorem dX9_copy_52 : decode cX9_copy 52 = .ok (.iload_n 2, 1) := by decide +kernel
theorem dX9_copy_53 : decode cX9_copy 53 = .ok (.aload_n 0, 1) := by decide +kernel
theorem dX9_copy_54 : decode cX9_copy 54 = .ok (.getfield 54, 3) := by decide +kernel
theorem dX9_copy_57 : decode cX9_copy 57 = .ok (.iload_n 1, 1) := by decide +kernel
theorem dX9_copy_58 : decode cX9_copy 58 = .ok (.iaload, 1) := by decide +kernel
theorem dX9_copy_59 : decode cX9_copy 59 = .ok (.iastore, 1) := by decide +kernel
theorem dX9_copy_60 : decode cX9_copy 60 = .ok (.iconst 0, 1) := by decide +kernel
theorem dX9_copy_61 : decode cX9_copy 61 = .ok (.istore_n 3, 1) := by decide +kernel
theorem dX9_copy_62 : decode cX9_copy 62 = .ok (.iload_n 3, 1) := by decide +kernel
theorem dX9_copy_63 : decode cX9_copy 63 = .ok (.iconst 3, 1) := by decide +kernel
theorem dX9_copy_64 : decode cX9_copy 64 = .ok (.if_icmp .ge 69, 3) := by decide +kernel
theorem dX9_copy_67 : decode cX9_copy 67 = .ok (.aload_n 0, 1) := by decide +kernel
theorem dX9_copy_68 : decode cX9_copy 68 = .ok (.getfield 57, 3) := by decide +kernel
theorem dX9_copy_71 : decode cX9_copy 71 = .ok (.iconst 3, 1) := by decide +kernel
theorem dX9_copy_72 : decode cX9_copy 72 = .ok (.iload_n 2, 1) := by decide +kernel
theorem dX9_copy_73 : decode cX9_copy 73 = .ok (.imul, 1) := by decide +kernel
theorem dX9_copy_74 : decode cX9_copy 74 = .ok (.iload_n 3, 1) := by decide +kernel
theorem dX9_copy_75 : decode cX9_copy 75 = .ok (.iadd, 1) := by decide +kernel
theorem dX9_copy_76 : decode cX9_copy 76 = .ok (.aload_n 0, 1) := by decide +kernel
theorem dX9_copy_77 : decode cX9_copy 77 = .ok (.getfield 57, 3) := by decide +kernel
theorem dX9_copy_80 : decode cX9_copy 80 = .ok (.iconst 3, 1) := by decide +kernel
theorem dX9_copy_81 : decode cX9_copy 81 = .ok (.iload_n 1, 1) := by decide +kernel
theorem dX9_copy_82 : decode cX9_copy 82 = .ok (.imul, 1) := by decide +kernel
theorem dX9_copy_83 : decode cX9_copy 83 = .ok (.iload_n 3, 1) := by decide +kernel
theorem dX9_copy_84 : decode cX9_copy 84 = .ok (.iadd, 1) := by decide +kernel
theorem dX9_copy_85 : decode cX9_copy 85 = .ok (.iaload, 1) := by decide +kernel
theorem dX9_copy_86 : decode cX9_copy 86 = .ok (.iastore, 1) := by decide +kernel
theorem dX9_copy_87 : decode cX9_copy 87 = .ok (.aload_n 0, 1) := by decide +kernel
theorem dX9_copy_88 : decode cX9_copy 88 = .ok (.getfield 60, 3) := by decide +kernel
theorem dX9_copy_91 : decode cX9_copy 91 = .ok (.iconst 3, 1) := by decide +kernel
theorem dX9_copy_92 : decode cX9_copy 92 = .ok (.iload_n 2, 1) := by decide +kernel
theorem dX9_copy_93 : decode cX9_copy 93 = .ok (.imul, 1) := by decide +kernel
theorem dX9_copy_94 : decode cX9_copy 94 = .ok (.iload_n 3, 1) := by decide +kernel
theorem dX9_copy_95 : decode cX9_copy 95 = .ok (.iadd, 1) := by decide +kernel
theorem dX9_copy_96 : decode cX9_copy 96 = .ok (.aload_n 0, 1) := by decide +kernel
theorem dX9_copy_97 : decode cX9_copy 97 = .ok (.getfield 60, 3) := by decide +kernel
theorem dX9_copy_100 : decode cX9_copy 100 = .ok (.iconst 3, 1) := by decide +kernel
theorem dX9_copy_101 : decode cX9_copy 101 = .ok (.iload_n 1, 1) := by decide +kernel
theorem dX9_copy_102 : decode cX9_copy 102 = .ok (.imul, 1) := by decide +kernel
theorem dX9_copy_103 : decode cX9_copy 103 = .ok (.iload_n 3, 1) := by decide +kernel
theorem dX9_copy_104 : decode cX9_copy 104 = .ok (.iadd, 1) := by decide +kernel
theorem dX9_copy_105 : decode cX9_copy 105 = .ok (.iaload, 1) := by decide +kernel
theorem dX9_copy_106 : decode cX9_copy 106 = .ok (.iastore, 1) := by decide +kernel
theorem dX9_copy_107 : decode cX9_copy 107 = .ok (.aload_n 0, 1) := by decide +kernel
theorem dX9_copy_108 : decode cX9_copy 108 = .ok (.getfield 63, 3) := by decide +kernel
theorem dX9_copy_111 : decode cX9_copy 111 = .ok (.iconst 3, 1) := by decide +kernel
theorem dX9_copy_112 : decode cX9_copy 112 = .ok (.iload_n 2, 1) := by decide +kernel
theorem dX9_copy_113 : decode cX9_copy 113 = .ok (.imul, 1) := by decide +kernel
theorem dX9_copy_114 : decode cX9_copy 114 = .ok (.iload_n 3, 1) := by decide +kernel
theorem dX9_copy_115 : decode cX9_copy 115 = .ok (.iadd, 1) := by decide +kernel
theorem dX9_copy_116 : decode cX9_copy 116 = .ok (.aload_n 0, 1) := by decide +kernel
theorem dX9_copy_117 : decode cX9_copy 117 = .ok (.getfield 63, 3) := by decide +kernel
theorem dX9_copy_120 : decode cX9_copy 120 = .ok (.iconst 3, 1) := by decide +kernel
theorem dX9_copy_121 : decode cX9_copy 121 = .ok (.iload_n 1, 1) := by decide +kernel
theorem dX9_copy_122 : decode cX9_copy 122 = .ok (.imul, 1) := by decide +kernel
theorem dX9_copy_123 : decode cX9_copy 123 = .ok (.iload_n 3, 1) := by decide +kernel
theorem dX9_copy_124 : decode cX9_copy 124 = .ok (.iadd, 1) := by decide +kernel
theorem dX9_copy_125 : decode cX9_copy 125 = .ok (.baload, 1) := by decide +kernel
theorem dX9_copy_126 : decode cX9_copy 126 = .ok (.bastore, 1) := by decide +kernel
theorem dX9_copy_127 : decode cX9_copy 127 = .ok (.iinc 3 1, 3) := by decide +kernel
theorem dX9_copy_130 : decode cX9_copy 130 = .ok (.goto (-68), 3) := by decide +kernel
theorem dX9_copy_133 : decode cX9_copy 133 = .ok (.return_, 1) := by decide +kernel
theorem dX9_keep_0 : decode cX9_keep 0 = .ok (.iload_n 1, 1) := by decide +kernel
theorem dX9_keep_1 : decode cX9_keep 1 = .ok (.iconst 0, 1) := by decide +kernel
theorem dX9_keep_2 : decode cX9_keep 2 = .ok (.iconst 1, 1) := by decide +kernel
theorem dX9_keep_3 : decode cX9_keep 3 = .ok (.invokestatic 103, 3) := by decide +kernel
theorem dX9_keep_6 : decode cX9_keep 6 = .ok (.ifCond .ne 5, 3) := by decide +kernel
theorem dX9_keep_9 : decode cX9_keep 9 = .ok (.iconst (-1), 1) := by decide +kernel
theorem dX9_keep_10 : decode cX9_keep 10 = .ok (.ireturn, 1) := by decide +kernel
theorem dX9_keep_11 : decode cX9_keep 11 = .ok (.aload_n 0, 1) := by decide +kernel
theorem dX9_keep_12 : decode cX9_keep 12 = .ok (.iconst 0, 1) := by decide +kernel
theorem dX9_keep_13 : decode cX9_keep 13 = .ok (.iconst 1, 1) := by decide +kernel
theorem dX9_keep_14 : decode cX9_keep 14 = .ok (.iload_n 1, 1) := by decide +kernel
theorem dX9_keep_15 : decode cX9_keep 15 = .ok (.iadd, 1) := by decide +kernel
theorem dX9_keep_16 : decode cX9_keep 16 = .ok (.invokevirtual 311, 3) := by decide +kernel
theorem dX9_keep_19 : decode cX9_keep 19 = .ok (.aload_n 0, 1) := by decide +kernel
theorem dX9_keep_20 : decode cX9_keep 20 = .ok (.getfield 66, 3) := by decide +kernel
theorem dX9_keep_23 : decode cX9_keep 23 = .ok (.iload_n 1, 1) := by decide +kernel
theorem dX9_keep_24 : decode cX9_keep 24 = .ok (.iconst 1, 1) := by decide +kernel
theorem dX9_keep_25 : decode cX9_keep 25 = .ok (.bastore, 1) := by decide +kernel
theorem dX9_keep_26 : decode cX9_keep 26 = .ok (.aload_n 0, 1) := by decide +kernel
theorem dX9_keep_27 : decode cX9_keep 27 = .ok (.getfield 41, 3) := by decide +kernel
theorem dX9_keep_30 : decode cX9_keep 30 = .ok (.iconst 0, 1) := by decide +kernel
theorem dX9_keep_31 : decode cX9_keep 31 = .ok (.iaload, 1) := by decide +kernel
theorem dX9_keep_32 : decode cX9_keep 32 = .ok (.ireturn, 1) := by decide +kernel
theorem dX9_back_0 : decode cX9_back 0 = .ok (.iload_n 1, 1) := by decide +kernel
theorem dX9_back_1 : decode cX9_back 1 = .ok (.iconst 0, 1) := by decide +kernel
theorem dX9_back_2 : decode cX9_back 2 = .ok (.iconst 1, 1) := by decide +kernel
theorem dX9_back_3 : decode cX9_back 3 = .ok (.invokestatic 103, 3) := by decide +kernel
theorem dX9_back_6 : decode cX9_back 6 = .ok (.ifCond .ne 5, 3) := by decide +kernel
theorem dX9_back_9 : decode cX9_back 9 = .ok (.iconst (-1), 1) := by decide +kernel
theorem dX9_back_10 : decode cX9_back 10 = .ok (.ireturn, 1) := by decide +kernel
theorem dX9_back_11 : decode cX9_back 11 = .ok (.aload_n 0, 1) := by decide +kernel
theorem dX9_back_12 : decode cX9_back 12 = .ok (.getfield 66, 3) := by decide +kernel
theorem dX9_back_15 : decode cX9_back 15 = .ok (.iload_n 1, 1) := by decide +kernel
theorem dX9_back_16 : decode cX9_back 16 = .ok (.baload, 1) := by decide +kernel
theorem dX9_back_17 : decode cX9_back 17 = .ok (.ifCond .ne 6, 3) := by decide +kernel
theorem dX9_back_20 : decode cX9_back 20 = .ok (.bipush (-2), 2) := by decide +kernel
theorem dX9_back_22 : decode cX9_back 22 = .ok (.ireturn, 1) := by decide +kernel
theorem dX9_back_23 : decode cX9_back 23 = .ok (.aload_n 0, 1) := by decide +kernel
theorem dX9_back_24 : decode cX9_back 24 = .ok (.iconst 1, 1) := by decide +kernel
theorem dX9_back_25 : decode cX9_back 25 = .ok (.iload_n 1, 1) := by decide +kernel
theorem dX9_back_26 : decode cX9_back 26 = .ok (.iadd, 1) := by decide +kernel
theorem dX9_back_27 : decode cX9_back 27 = .ok (.iconst 0, 1) := by decide +kernel
theorem dX9_back_28 : decode cX9_back 28 = .ok (.invokevirtual 311, 3) := by decide +kernel
theorem dX9_back_31 : decode cX9_back 31 = .ok (.aload_n 0, 1) := by decide +kernel
theorem dX9_back_32 : decode cX9_back 32 = .ok (.getfield 41, 3) := by decide +kernel
theorem dX9_back_35 : decode cX9_back 35 = .ok (.iconst 0, 1) := by decide +kernel
theorem dX9_back_36 : decode cX9_back 36 = .ok (.iaload, 1) := by decide +kernel
theorem dX9_back_37 : decode cX9_back 37 = .ok (.ireturn, 1) := by decide +kernel
theorem dX9_count_0 : decode cX9_count 0 = .ok (.iload_n 1, 1) := by decide +kernel
theorem dX9_count_1 : decode cX9_count 1 = .ok (.tableswitch 77 0 5 #[39, 46, 53, 60, 67, 72], 39) := by decide +kernel
theorem dX9_count_40 : decode cX9_count 40 = .ok (.aload_n 0, 1) := by decide +kernel
theorem dX9_count_41 : decode cX9_count 41 = .ok (.getfield 13, 3) := by decide +kernel
theorem dX9_count_44 : decode cX9_count 44 = .ok (.iconst 0, 1) := by decide +kernel
theorem dX9_count_45 : decode cX9_count 45 = .ok (.iaload, 1) := by decide +kernel
theorem dX9_count_46 : decode cX9_count 46 = .ok (.ireturn, 1) := by decide +kernel
theorem dX9_count_47 : decode cX9_count 47 = .ok (.aload_n 0, 1) := by decide +kernel
theorem dX9_count_48 : decode cX9_count 48 = .ok (.getfield 17, 3) := by decide +kernel
theorem dX9_count_51 : decode cX9_count 51 = .ok (.iconst 0, 1) := by decide +kernel
theorem dX9_count_52 : decode cX9_count 52 = .ok (.iaload, 1) := by decide +kernel
theorem dX9_count_53 : decode cX9_count 53 = .ok (.ireturn, 1) := by decide +kernel
theorem dX9_count_54 : decode cX9_count 54 = .ok (.aload_n 0, 1) := by decide +kernel
theorem dX9_count_55 : decode cX9_count 55 = .ok (.getfield 20, 3) := by decide +kernel
theorem dX9_count_58 : decode cX9_count 58 = .ok (.iconst 0, 1) := by decide +kernel
theorem dX9_count_59 : decode cX9_count 59 = .ok (.iaload, 1) := by decide +kernel
theorem dX9_count_60 : decode cX9_count 60 = .ok (.ireturn, 1) := by decide +kernel
theorem dX9_count_61 : decode cX9_count 61 = .ok (.aload_n 0, 1) := by decide +kernel
theorem dX9_count_62 : decode cX9_count 62 = .ok (.getfield 23, 3) := by decide +kernel
theorem dX9_count_65 : decode cX9_count 65 = .ok (.iconst 0, 1) := by decide +kernel
theorem dX9_count_66 : decode cX9_count 66 = .ok (.iaload, 1) := by decide +kernel
theorem dX9_count_67 : decode cX9_count 67 = .ok (.ireturn, 1) := by decide +kernel
theorem dX9_count_68 : decode cX9_count 68 = .ok (.aload_n 0, 1) := by decide +kernel
theorem dX9_count_69 : decode cX9_count 69 = .ok (.getfield 107, 3) := by decide +kernel
theorem dX9_count_72 : decode cX9_count 72 = .ok (.ireturn, 1) := by decide +kernel
theorem dX9_count_73 : decode cX9_count 73 = .ok (.aload_n 0, 1) := by decide +kernel
theorem dX9_count_74 : decode cX9_count 74 = .ok (.getfield 289, 3) := by decide +kernel
theorem dX9_count_77 : decode cX9_count 77 = .ok (.ireturn, 1) := by decide +kernel
theorem dX9_count_78 : decode cX9_count 78 = .ok (.iconst (-1), 1) := by decide +kernel
theorem dX9_count_79 : decode cX9_count 79 = .ok (.ireturn, 1) := by decide +kernel
theorem dX9_trace_0 : decode cX9_trace 0 = .ok (.aload_n 0, 1) := by decide +kernel
theorem dX9_trace_1 : decode cX9_trace 1 = .ok (.getfield 297, 3) := by decide +kernel
theorem dX9_trace_4 : decode cX9_trace 4 = .ok (.lreturn, 1) := by decide +kernel
theorem dJ9_max_7cf53_0 : decode cJ9_max_7cf53 0 = .ok (.iload_n 0, 1) := by decide +kernel
theorem dJ9_max_7cf53_1 : decode cJ9_max_7cf53 1 = .ok (.iload_n 1, 1) := by decide +kernel
theorem dJ9_max_7cf53_2 : decode cJ9_max_7cf53 2 = .ok (.if_icmp .lt 7, 3) := by decide +kernel
theorem dJ9_max_7cf53_5 : decode cJ9_max_7cf53 5 = .ok (.iload_n 0, 1) := by decide +kernel
theorem dJ9_max_7cf53_6 : decode cJ9_max_7cf53 6 = .ok (.goto 4, 3) := by decide +kernel
theorem dJ9_max_7cf53_9 : decode cJ9_max_7cf53 9 = .ok (.iload_n 1, 1) := by decide +kernel
theorem dJ9_max_7cf53_10 : decode cJ9_max_7cf53 10 = .ok (.ireturn, 1) := by decide +kernel
theorem dJ9_max_f86c9_0 : decode cJ9_max_f86c9 0 = .ok (.lload_n 0, 1) := by decide +kernel
theorem dJ9_max_f86c9_1 : decode cJ9_max_f86c9 1 = .ok (.lload_n 2, 1) := by decide +kernel
theorem dJ9_max_f86c9_2 : decode cJ9_max_f86c9 2 = .ok (.lcmp, 1) := by decide +kernel
theorem dJ9_max_f86c9_3 : decode cJ9_max_f86c9 3 = .ok (.ifCond .lt 7, 3) := by decide +kernel
theorem dJ9_max_f86c9_6 : decode cJ9_max_f86c9 6 = .ok (.lload_n 0, 1) := by decide +kernel
theorem dJ9_max_f86c9_7 : decode cJ9_max_f86c9 7 = .ok (.goto 4, 3) := by decide +kernel
theorem dJ9_max_f86c9_10 : decode cJ9_max_f86c9 10 = .ok (.lload_n 2, 1) := by decide +kernel
theorem dJ9_max_f86c9_11 : decode cJ9_max_f86c9 11 = .ok (.lreturn, 1) := by decide +kernel
theorem dJ9_min_7cf53_0 : decode cJ9_min_7cf53 0 = .ok (.iload_n 0, 1) := by decide +kernel
theorem dJ9_min_7cf53_1 : decode cJ9_min_7cf53 1 = .ok (.iload_n 1, 1) := by decide +kernel
theorem dJ9_min_7cf53_2 : decode cJ9_min_7cf53 2 = .ok (.if_icmp .gt 7, 3) := by decide +kernel
theorem dJ9_min_7cf53_5 : decode cJ9_min_7cf53 5 = .ok (.iload_n 0, 1) := by decide +kernel
theorem dJ9_min_7cf53_6 : decode cJ9_min_7cf53 6 = .ok (.goto 4, 3) := by decide +kernel
theorem dJ9_min_7cf53_9 : decode cJ9_min_7cf53 9 = .ok (.iload_n 1, 1) := by decide +kernel
theorem dJ9_min_7cf53_10 : decode cJ9_min_7cf53 10 = .ok (.ireturn, 1) := by decide +kernel
theorem dJ0_length_8abf5_0 : decode cJ0_length_8abf5 0 = .ok (.aload_n 0, 1) := by decide +kernel
theorem dJ0_length_8abf5_1 : decode cJ0_length_8abf5 1 = .ok (.getfield 9, 3) := by decide +kernel
theorem dJ0_length_8abf5_4 : decode cJ0_length_8abf5 4 = .ok (.arraylength, 1) := by decide +kernel
theorem dJ0_length_8abf5_5 : decode cJ0_length_8abf5 5 = .ok (.aload_n 0, 1) := by decide +kernel
theorem dJ0_length_8abf5_6 : decode cJ0_length_8abf5 6 = .ok (.invokevirtual 335, 3) := by decide +kernel
theorem dJ0_length_8abf5_9 : decode cJ0_length_8abf5 9 = .ok (.ishr, 1) := by decide +kernel
theorem dJ0_length_8abf5_10 : decode cJ0_length_8abf5 10 = .ok (.ireturn, 1) := by decide +kernel
theorem dJ0_charAt_5068e_0 : decode cJ0_charAt_5068e 0 = .ok (.aload_n 0, 1) := by decide +kernel
theorem dJ0_charAt_5068e_1 : decode cJ0_charAt_5068e 1 = .ok (.invokevirtual 492, 3) := by decide +kernel
theorem dJ0_charAt_5068e_4 : decode cJ0_charAt_5068e 4 = .ok (.ifCond .eq 12, 3) := by decide +kernel
theorem dJ0_charAt_5068e_7 : decode cJ0_charAt_5068e 7 = .ok (.aload_n 0, 1) := by decide +kernel
theorem dJ0_charAt_5068e_8 : decode cJ0_charAt_5068e 8 = .ok (.getfield 9, 3) := by decide +kernel
theorem dJ0_charAt_5068e_11 : decode cJ0_charAt_5068e 11 = .ok (.iload_n 1, 1) := by decide +kernel
theorem dJ0_charAt_5068e_12 : decode cJ0_charAt_5068e 12 = .ok (.invokestatic 495, 3) := by decide +kernel
theorem dJ0_charAt_5068e_15 : decode cJ0_charAt_5068e 15 = .ok (.ireturn, 1) := by decide +kernel
theorem dJ0_charAt_5068e_16 : decode cJ0_charAt_5068e 16 = .ok (.aload_n 0, 1) := by decide +kernel
theorem dJ0_charAt_5068e_17 : decode cJ0_charAt_5068e 17 = .ok (.getfield 9, 3) := by decide +kernel
theorem dJ0_charAt_5068e_20 : decode cJ0_charAt_5068e 20 = .ok (.iload_n 1, 1) := by decide +kernel
theorem dJ0_charAt_5068e_21 : decode cJ0_charAt_5068e 21 = .ok (.invokestatic 498, 3) := by decide +kernel
theorem dJ0_charAt_5068e_24 : decode cJ0_charAt_5068e 24 = .ok (.ireturn, 1) := by decide +kernel
theorem dJ0_coder_7d493_0 : decode cJ0_coder_7d493 0 = .ok (.getstatic 38, 3) := by decide +kernel
theorem dJ0_coder_7d493_3 : decode cJ0_coder_7d493 3 = .ok (.ifCond .eq 10, 3) := by decide +kernel
theorem dJ0_coder_7d493_6 : decode cJ0_coder_7d493 6 = .ok (.aload_n 0, 1) := by decide +kernel
theorem dJ0_coder_7d493_7 : decode cJ0_coder_7d493 7 = .ok (.getfield 15, 3) := by decide +kernel
theorem dJ0_coder_7d493_10 : decode cJ0_coder_7d493 10 = .ok (.goto 4, 3) := by decide +kernel
theorem dJ0_coder_7d493_13 : decode cJ0_coder_7d493 13 = .ok (.iconst 1, 1) := by decide +kernel
theorem dJ0_coder_7d493_14 : decode cJ0_coder_7d493 14 = .ok (.ireturn, 1) := by decide +kernel
theorem dJ0_isLatin1_aae02_0 : decode cJ0_isLatin1_aae02 0 = .ok (.getstatic 38, 3) := by decide +kernel
theorem dJ0_isLatin1_aae02_3 : decode cJ0_isLatin1_aae02 3 = .ok (.ifCond .eq 14, 3) := by decide +kernel
theorem dJ0_isLatin1_aae02_6 : decode cJ0_isLatin1_aae02 6 = .ok (.aload_n 0, 1) := by decide +kernel
theorem dJ0_isLatin1_aae02_7 : decode cJ0_isLatin1_aae02 7 = .ok (.getfield 15, 3) := by decide +kernel
theorem dJ0_isLatin1_aae02_10 : decode cJ0_isLatin1_aae02 10 = .ok (.ifCond .ne 7, 3) := by decide +kernel
theorem dJ0_isLatin1_aae02_13 : decode cJ0_isLatin1_aae02 13 = .ok (.iconst 1, 1) := by decide +kernel
theorem dJ0_isLatin1_aae02_14 : decode cJ0_isLatin1_aae02 14 = .ok (.goto 4, 3) := by decide +kernel
theorem dJ0_isLatin1_aae02_17 : decode cJ0_isLatin1_aae02 17 = .ok (.iconst 0, 1) := by decide +kernel
theorem dJ0_isLatin1_aae02_18 : decode cJ0_isLatin1_aae02 18 = .ok (.ireturn, 1) := by decide +kernel
theorem dJ0_checkIndex_df160_0 : decode cJ0_checkIndex_df160 0 = .ok (.iload_n 0, 1) := by decide +kernel
theorem dJ0_checkIndex_df160_1 : decode cJ0_checkIndex_df160 1 = .ok (.iload_n 1, 1) := by decide +kernel
theorem dJ0_checkIndex_df160_2 : decode cJ0_checkIndex_df160 2 = .ok (.getstatic 1053, 3) := by decide +kernel
theorem dJ0_checkIndex_df160_5 : decode cJ0_checkIndex_df160 5 = .ok (.invokestatic 1059, 3) := by decide +kernel
theorem dJ0_checkIndex_df160_8 : decode cJ0_checkIndex_df160 8 = .ok (.pop, 1) := by decide +kernel
theorem dJ0_checkIndex_df160_9 : decode cJ0_checkIndex_df160 9 = .ok (.return_, 1) := by decide +kernel
theorem dJ1_charAt_3b067_0 : decode cJ1_charAt_3b067 0 = .ok (.iload_n 1, 1) := by decide +kernel
theorem dJ1_charAt_3b067_1 : decode cJ1_charAt_3b067 1 = .ok (.aload_n 0, 1) := by decide +kernel
theorem dJ1_charAt_3b067_2 : decode cJ1_charAt_3b067 2 = .ok (.arraylength, 1) := by decide +kernel
theorem dJ1_charAt_3b067_3 : decode cJ1_charAt_3b067 3 = .ok (.invokestatic 9, 3) := by decide +kernel
theorem dJ1_charAt_3b067_6 : decode cJ1_charAt_3b067 6 = .ok (.aload_n 0, 1) := by decide +kernel
theorem dJ1_charAt_3b067_7 : decode cJ1_charAt_3b067 7 = .ok (.iload_n 1, 1) := by decide +kernel
theorem dJ1_charAt_3b067_8 : decode cJ1_charAt_3b067 8 = .ok (.baload, 1) := by decide +kernel
theorem dJ1_charAt_3b067_9 : decode cJ1_charAt_3b067 9 = .ok (.sipush 255, 3) := by decide +kernel
theorem dJ1_charAt_3b067_12 : decode cJ1_charAt_3b067 12 = .ok (.iand, 1) := by decide +kernel
theorem dJ1_charAt_3b067_13 : decode cJ1_charAt_3b067 13 = .ok (.i2c, 1) := by decide +kernel
theorem dJ1_charAt_3b067_14 : decode cJ1_charAt_3b067 14 = .ok (.ireturn, 1) := by decide +kernel
theorem dJ2_getChar_3b067_0 : decode cJ2_getChar_3b067 0 = .ok (.getstatic 44, 3) := by decide +kernel
theorem dJ2_getChar_3b067_3 : decode cJ2_getChar_3b067 3 = .ok (.ifCond .ne 25, 3) := by decide +kernel
theorem dJ2_getChar_3b067_6 : decode cJ2_getChar_3b067 6 = .ok (.iload_n 1, 1) := by decide +kernel
theorem dJ2_getChar_3b067_7 : decode cJ2_getChar_3b067 7 = .ok (.ifCond .lt 11, 3) := by decide +kernel
theorem dJ2_getChar_3b067_10 : decode cJ2_getChar_3b067 10 = .ok (.iload_n 1, 1) := by decide +kernel
theorem dJ2_getChar_3b067_11 : decode cJ2_getChar_3b067 11 = .ok (.aload_n 0, 1) := by decide +kernel
theorem dJ2_getChar_3b067_12 : decode cJ2_getChar_3b067 12 = .ok (.invokestatic 48, 3) := by decide +kernel
theorem dJ2_getChar_3b067_15 : decode cJ2_getChar_3b067 15 = .ok (.if_icmp .lt 13, 3) := by decide +kernel
theorem dJ2_getChar_3b067_18 : decode cJ2_getChar_3b067 18 = .ok (.new 52, 3) := by decide +kernel
theorem dJ2_getChar_3b067_21 : decode cJ2_getChar_3b067 21 = .ok (.dup, 1) := by decide +kernel
theorem dJ2_getChar_3b067_22 : decode cJ2_getChar_3b067 22 = .ok (.ldc 54, 2) := by decide +kernel
theorem dJ2_getChar_3b067_24 : decode cJ2_getChar_3b067 24 = .ok (.invokespecial 56, 3) := by decide +kernel
theorem dJ2_getChar_3b067_27 : decode cJ2_getChar_3b067 27 = .ok (.athrow, 1) := by decide +kernel
theorem dJ2_getChar_3b067_28 : decode cJ2_getChar_3b067 28 = .ok (.iload_n 1, 1) := by decide +kernel
theorem dJ2_getChar_3b067_29 : decode cJ2_getChar_3b067 29 = .ok (.iconst 1, 1) := by decide +kernel
theorem dJ2_getChar_3b067_30 : decode cJ2_getChar_3b067 30 = .ok (.ishl, 1) := by decide +kernel
theorem dJ2_getChar_3b067_31 : decode cJ2_getChar_3b067 31 = .ok (.istore_n 1, 1) := by decide +kernel
theorem dJ2_getChar_3b067_32 : decode cJ2_getChar_3b067 32 = .ok (.aload_n 0, 1) := by decide +kernel
theorem dJ2_getChar_3b067_33 : decode cJ2_getChar_3b067 33 = .ok (.iload_n 1, 1) := by decide +kernel
theorem dJ2_getChar_3b067_34 : decode cJ2_getChar_3b067 34 = .ok (.iinc 1 1, 3) := by decide +kernel
theorem dJ2_getChar_3b067_37 : decode cJ2_getChar_3b067 37 = .ok (.baload, 1) := by decide +kernel
theorem dJ2_getChar_3b067_38 : decode cJ2_getChar_3b067 38 = .ok (.sipush 255, 3) := by decide +kernel
theorem dJ2_getChar_3b067_41 : decode cJ2_getChar_3b067 41 = .ok (.iand, 1) := by decide +kernel
theorem dJ2_getChar_3b067_42 : decode cJ2_getChar_3b067 42 = .ok (.getstatic 59, 3) := by decide +kernel
theorem dJ2_getChar_3b067_45 : decode cJ2_getChar_3b067 45 = .ok (.ishl, 1) := by decide +kernel
theorem dJ2_getChar_3b067_46 : decode cJ2_getChar_3b067 46 = .ok (.aload_n 0, 1) := by decide +kernel
theorem dJ2_getChar_3b067_47 : decode cJ2_getChar_3b067 47 = .ok (.iload_n 1, 1) := by decide +kernel
theorem dJ2_getChar_3b067_48 : decode cJ2_getChar_3b067 48 = .ok (.baload, 1) := by decide +kernel
theorem dJ2_getChar_3b067_49 : decode cJ2_getChar_3b067 49 = .ok (.sipush 255, 3) := by decide +kernel
theorem dJ2_getChar_3b067_52 : decode cJ2_getChar_3b067 52 = .ok (.iand, 1) := by decide +kernel
theorem dJ2_getChar_3b067_53 : decode cJ2_getChar_3b067 53 = .ok (.getstatic 63, 3) := by decide +kernel
theorem dJ2_getChar_3b067_56 : decode cJ2_getChar_3b067 56 = .ok (.ishl, 1) := by decide +kernel
theorem dJ2_getChar_3b067_57 : decode cJ2_getChar_3b067 57 = .ok (.ior, 1) := by decide +kernel
theorem dJ2_getChar_3b067_58 : decode cJ2_getChar_3b067 58 = .ok (.i2c, 1) := by decide +kernel
theorem dJ2_getChar_3b067_59 : decode cJ2_getChar_3b067 59 = .ok (.ireturn, 1) := by decide +kernel
theorem dJ2_length_9d52b_0 : decode cJ2_length_9d52b 0 = .ok (.aload_n 0, 1) := by decide +kernel
theorem dJ2_length_9d52b_1 : decode cJ2_length_9d52b 1 = .ok (.arraylength, 1) := by decide +kernel
theorem dJ2_length_9d52b_2 : decode cJ2_length_9d52b 2 = .ok (.iconst 1, 1) := by decide +kernel
theorem dJ2_length_9d52b_3 : decode cJ2_length_9d52b 3 = .ok (.ishr, 1) := by decide +kernel
theorem dJ2_length_9d52b_4 : decode cJ2_length_9d52b 4 = .ok (.ireturn, 1) := by decide +kernel
theorem dJ2_charAt_3b067_0 : decode cJ2_charAt_3b067 0 = .ok (.iload_n 1, 1) := by decide +kernel
theorem dJ2_charAt_3b067_1 : decode cJ2_charAt_3b067 1 = .ok (.aload_n 0, 1) := by decide +kernel
theorem dJ2_charAt_3b067_2 : decode cJ2_charAt_3b067 2 = .ok (.invokestatic 67, 3) := by decide +kernel
theorem dJ2_charAt_3b067_5 : decode cJ2_charAt_3b067 5 = .ok (.aload_n 0, 1) := by decide +kernel
theorem dJ2_charAt_3b067_6 : decode cJ2_charAt_3b067 6 = .ok (.iload_n 1, 1) := by decide +kernel
theorem dJ2_charAt_3b067_7 : decode cJ2_charAt_3b067 7 = .ok (.invokestatic 71, 3) := by decide +kernel
theorem dJ2_charAt_3b067_10 : decode cJ2_charAt_3b067 10 = .ok (.ireturn, 1) := by decide +kernel
theorem dJ2_checkIndex_2214a_0 : decode cJ2_checkIndex_2214a 0 = .ok (.iload_n 0, 1) := by decide +kernel
theorem dJ2_checkIndex_2214a_1 : decode cJ2_checkIndex_2214a 1 = .ok (.aload_n 1, 1) := by decide +kernel
theorem dJ2_checkIndex_2214a_2 : decode cJ2_checkIndex_2214a 2 = .ok (.invokestatic 48, 3) := by decide +kernel
theorem dJ2_checkIndex_2214a_5 : decode cJ2_checkIndex_2214a 5 = .ok (.invokestatic 414, 3) := by decide +kernel
theorem dJ2_checkIndex_2214a_8 : decode cJ2_checkIndex_2214a 8 = .ok (.return_, 1) := by decide +kernel
theorem dJ7_fill_53178_0 : decode cJ7_fill_53178 0 = .ok (.iconst 0, 1) := by decide +kernel
theorem dJ7_fill_53178_1 : decode cJ7_fill_53178 1 = .ok (.istore_n 2, 1) := by decide +kernel
theorem dJ7_fill_53178_2 : decode cJ7_fill_53178 2 = .ok (.aload_n 0, 1) := by decide +kernel
theorem dJ7_fill_53178_3 : decode cJ7_fill_53178 3 = .ok (.arraylength, 1) := by decide +kernel
theorem dJ7_fill_53178_4 : decode cJ7_fill_53178 4 = .ok (.istore_n 3, 1) := by decide +kernel
theorem dJ7_fill_53178_5 : decode cJ7_fill_53178 5 = .ok (.iload_n 2, 1) := by decide +kernel
theorem dJ7_fill_53178_6 : decode cJ7_fill_53178 6 = .ok (.iload_n 3, 1) := by decide +kernel
theorem dJ7_fill_53178_7 : decode cJ7_fill_53178 7 = .ok (.if_icmp .ge 13, 3) := by decide +kernel
theorem dJ7_fill_53178_10 : decode cJ7_fill_53178 10 = .ok (.aload_n 0, 1) := by decide +kernel
theorem dJ7_fill_53178_11 : decode cJ7_fill_53178 11 = .ok (.iload_n 2, 1) := by decide +kernel
theorem dJ7_fill_53178_12 : decode cJ7_fill_53178 12 = .ok (.iload_n 1, 1) := by decide +kernel
theorem dJ7_fill_53178_13 : decode cJ7_fill_53178 13 = .ok (.iastore, 1) := by decide +kernel
theorem dJ7_fill_53178_14 : decode cJ7_fill_53178 14 = .ok (.iinc 2 1, 3) := by decide +kernel
theorem dJ7_fill_53178_17 : decode cJ7_fill_53178 17 = .ok (.goto (-12), 3) := by decide +kernel
theorem dJ7_fill_53178_20 : decode cJ7_fill_53178 20 = .ok (.return_, 1) := by decide +kernel
theorem dJ3_checkIndex_8e157_0 : decode cJ3_checkIndex_8e157 0 = .ok (.iload_n 0, 1) := by decide +kernel
theorem dJ3_checkIndex_8e157_1 : decode cJ3_checkIndex_8e157 1 = .ok (.ifCond .lt 8, 3) := by decide +kernel
theorem dJ3_checkIndex_8e157_4 : decode cJ3_checkIndex_8e157 4 = .ok (.iload_n 0, 1) := by decide +kernel
theorem dJ3_checkIndex_8e157_5 : decode cJ3_checkIndex_8e157 5 = .ok (.iload_n 1, 1) := by decide +kernel
theorem dJ3_checkIndex_8e157_6 : decode cJ3_checkIndex_8e157 6 = .ok (.if_icmp .lt 10, 3) := by decide +kernel
theorem dJ3_checkIndex_8e157_9 : decode cJ3_checkIndex_8e157 9 = .ok (.aload_n 2, 1) := by decide +kernel
theorem dJ3_checkIndex_8e157_10 : decode cJ3_checkIndex_8e157 10 = .ok (.iload_n 0, 1) := by decide +kernel
theorem dJ3_checkIndex_8e157_11 : decode cJ3_checkIndex_8e157 11 = .ok (.iload_n 1, 1) := by decide +kernel
theorem dJ3_checkIndex_8e157_12 : decode cJ3_checkIndex_8e157 12 = .ok (.invokestatic 95, 3) := by decide +kernel
theorem dJ3_checkIndex_8e157_15 : decode cJ3_checkIndex_8e157 15 = .ok (.athrow, 1) := by decide +kernel
theorem dJ3_checkIndex_8e157_16 : decode cJ3_checkIndex_8e157 16 = .ok (.iload_n 0, 1) := by decide +kernel
theorem dJ3_checkIndex_8e157_17 : decode cJ3_checkIndex_8e157 17 = .ok (.ireturn, 1) := by decide +kernel
theorem dL_law_0 : decode cL_law 0 = .ok (.new 7, 3) := by decide +kernel
theorem dL_law_3 : decode cL_law 3 = .ok (.dup, 1) := by decide +kernel
theorem dL_law_4 : decode cL_law 4 = .ok (.invokespecial 9, 3) := by decide +kernel
theorem dL_law_7 : decode cL_law 7 = .ok (.astore_n 1, 1) := by decide +kernel
theorem dL_law_8 : decode cL_law 8 = .ok (.new 10, 3) := by decide +kernel
theorem dL_law_11 : decode cL_law 11 = .ok (.dup, 1) := by decide +kernel
theorem dL_law_12 : decode cL_law 12 = .ok (.invokespecial 12, 3) := by decide +kernel
theorem dL_law_15 : decode cL_law 15 = .ok (.astore_n 2, 1) := by decide +kernel
theorem dL_law_16 : decode cL_law 16 = .ok (.iconst 0, 1) := by decide +kernel
theorem dL_law_17 : decode cL_law 17 = .ok (.istore_n 3, 1) := by decide +kernel
theorem dL_law_18 : decode cL_law 18 = .ok (.iload_n 3, 1) := by decide +kernel
theorem dL_law_19 : decode cL_law 19 = .ok (.aload_n 0, 1) := by decide +kernel
theorem dL_law_20 : decode cL_law 20 = .ok (.arraylength, 1) := by decide +kernel
theorem dL_law_21 : decode cL_law 21 = .ok (.iconst 5, 1) := by decide +kernel
theorem dL_law_22 : decode cL_law 22 = .ok (.isub, 1) := by decide +kernel
theorem dL_law_23 : decode cL_law 23 = .ok (.if_icmp .gt 951, 3) := by decide +kernel
theorem dL_law_26 : decode cL_law 26 = .ok (.aload_n 0, 1) := by decide +kernel
theorem dL_law_27 : decode cL_law 27 = .ok (.iload_n 3, 1) := by decide +kernel
theorem dL_law_28 : decode cL_law 28 = .ok (.iaload, 1) := by decide +kernel
theorem dL_law_29 : decode cL_law 29 = .ok (.bipush 31, 2) := by decide +kernel
theorem dL_law_31 : decode cL_law 31 = .ok (.iand, 1) := by decide +kernel
theorem dL_law_32 : decode cL_law 32 = .ok (.tableswitch 936 0 30 #[140, 203, 216, 229, 262, 295, 328, 371, 394, 417, 440, 453, 476, 499, 522, 545, 568, 591, 614, 637, 650, 673, 727, 750, 763, 786, 820, 853, 876, 899, 922], 140) := by decide +kernel
theorem dL_law_172 : decode cL_law 172 = .ok (.aload_n 1, 1) := by decide +kernel
theorem dL_law_173 : decode cL_law 173 = .ok (.aload_n 0, 1) := by decide +kernel
theorem dL_law_174 : decode cL_law 174 = .ok (.iload_n 3, 1) := by decide +kernel
theorem dL_law_175 : decode cL_law 175 = .ok (.iconst 1, 1) := by decide +kernel
theorem dL_law_176 : decode cL_law 176 = .ok (.iadd, 1) := by decide +kernel
theorem dL_law_177 : decode cL_law 177 = .ok (.iaload, 1) := by decide +kernel
theorem dL_law_178 : decode cL_law 178 = .ok (.i2l, 1) := by decide +kernel
theorem dL_law_179 : decode cL_law 179 = .ok (.bipush 32, 2) := by decide +kernel
theorem dL_law_181 : decode cL_law 181 = .ok (.lshl, 1) := by decide +kernel
theorem dL_law_182 : decode cL_law 182 = .ok (.aload_n 0, 1) := by decide +kernel
theorem dL_law_183 : decode cL_law 183 = .ok (.iload_n 3, 1) := by decide +kernel
theorem dL_law_184 : decode cL_law 184 = .ok (.iconst 2, 1) := by decide +kernel
theorem dL_law_185 : decode cL_law 185 = .ok (.iadd, 1) := by decide +kernel
theorem dL_law_186 : decode cL_law 186 = .ok (.iaload, 1) := by decide +kernel
theorem dL_law_187 : decode cL_law 187 = .ok (.i2l, 1) := by decide +kernel
theorem dL_law_188 : decode cL_law 188 = .ok (.ldc2_w 13, 3) := by decide +kernel
theorem dL_law_191 : decode cL_law 191 = .ok (.land, 1) := by decide +kernel
theorem dL_law_192 : decode cL_law 192 = .ok (.lor, 1) := by decide +kernel
theorem dL_law_193 : decode cL_law 193 = .ok (.aload_n 0, 1) := by decide +kernel
theorem dL_law_194 : decode cL_law 194 = .ok (.iload_n 3, 1) := by decide +kernel
theorem dL_law_195 : decode cL_law 195 = .ok (.iconst 3, 1) := by decide +kernel
theorem dL_law_196 : decode cL_law 196 = .ok (.iadd, 1) := by decide +kernel
theorem dL_law_197 : decode cL_law 197 = .ok (.iaload, 1) := by decide +kernel
theorem dL_law_198 : decode cL_law 198 = .ok (.invokevirtual 15, 3) := by decide +kernel
theorem dL_law_201 : decode cL_law 201 = .ok (.aload_n 2, 1) := by decide +kernel
theorem dL_law_202 : decode cL_law 202 = .ok (.aload_n 0, 1) := by decide +kernel
theorem dL_law_203 : decode cL_law 203 = .ok (.iload_n 3, 1) := by decide +kernel
theorem dL_law_204 : decode cL_law 204 = .ok (.iconst 1, 1) := by decide +kernel
theorem dL_law_205 : decode cL_law 205 = .ok (.iadd, 1) := by decide +kernel
theorem dL_law_206 : decode cL_law 206 = .ok (.iaload, 1) := by decide +kernel
theorem dL_law_207 : decode cL_law 207 = .ok (.i2l, 1) := by decide +kernel
theorem dL_law_208 : decode cL_law 208 = .ok (.bipush 32, 2) := by decide +kernel
theorem dL_law_210 : decode cL_law 210 = .ok (.lshl, 1) := by decide +kernel
theorem dL_law_211 : decode cL_law 211 = .ok (.aload_n 0, 1) := by decide +kernel
theorem dL_law_212 : decode cL_law 212 = .ok (.iload_n 3, 1) := by decide +kernel
theorem dL_law_213 : decode cL_law 213 = .ok (.iconst 2, 1) := by decide +kernel
theorem dL_law_214 : decode cL_law 214 = .ok (.iadd, 1) := by decide +kernel
theorem dL_law_215 : decode cL_law 215 = .ok (.iaload, 1) := by decide +kernel
theorem dL_law_216 : decode cL_law 216 = .ok (.i2l, 1) := by decide +kernel
theorem dL_law_217 : decode cL_law 217 = .ok (.ldc2_w 13, 3) := by decide +kernel
theorem dL_law_220 : decode cL_law 220 = .ok (.land, 1) := by decide +kernel
theorem dL_law_221 : decode cL_law 221 = .ok (.lor, 1) := by decide +kernel
theorem dL_law_222 : decode cL_law 222 = .ok (.aload_n 0, 1) := by decide +kernel
theorem dL_law_223 : decode cL_law 223 = .ok (.iload_n 3, 1) := by decide +kernel
theorem dL_law_224 : decode cL_law 224 = .ok (.iconst 3, 1) := by decide +kernel
theorem dL_law_225 : decode cL_law 225 = .ok (.iadd, 1) := by decide +kernel
theorem dL_law_226 : decode cL_law 226 = .ok (.iaload, 1) := by decide +kernel
theorem dL_law_227 : decode cL_law 227 = .ok (.invokevirtual 19, 3) := by decide +kernel
theorem dL_law_230 : decode cL_law 230 = .ok (.if_icmp .eq 738, 3) := by decide +kernel
theorem dL_law_233 : decode cL_law 233 = .ok (.iconst 0, 1) := by decide +kernel
theorem dL_law_234 : decode cL_law 234 = .ok (.ireturn, 1) := by decide +kernel
theorem dL_law_235 : decode cL_law 235 = .ok (.aload_n 1, 1) := by decide +kernel
theorem dL_law_236 : decode cL_law 236 = .ok (.invokevirtual 20, 3) := by decide +kernel
theorem dL_law_239 : decode cL_law 239 = .ok (.aload_n 2, 1) := by decide +kernel
theorem dL_law_240 : decode cL_law 240 = .ok (.invokevirtual 24, 3) := by decide +kernel
theorem dL_law_243 : decode cL_law 243 = .ok (.if_icmp .eq 725, 3) := by decide +kernel
theorem dL_law_246 : decode cL_law 246 = .ok (.iconst 0, 1) := by decide +kernel
theorem dL_law_247 : decode cL_law 247 = .ok (.ireturn, 1) := by decide +kernel
theorem dL_law_248 : decode cL_law 248 = .ok (.aload_n 1, 1) := by decide +kernel
theorem dL_law_249 : decode cL_law 249 = .ok (.invokevirtual 25, 3) := by decide +kernel
theorem dL_law_252 : decode cL_law 252 = .ok (.aload_n 2, 1) := by decide +kernel
theorem dL_law_253 : decode cL_law 253 = .ok (.invokevirtual 28, 3) := by decide +kernel
theorem dL_law_256 : decode cL_law 256 = .ok (.if_icmp .eq 712, 3) := by decide +kernel
theorem dL_law_259 : decode cL_law 259 = .ok (.iconst 0, 1) := by decide +kernel
theorem dL_law_260 : decode cL_law 260 = .ok (.ireturn, 1) := by decide +kernel
theorem dL_law_261 : decode cL_law 261 = .ok (.aload_n 1, 1) := by decide +kernel
theorem dL_law_262 : decode cL_law 262 = .ok (.aload_n 0, 1) := by decide +kernel
theorem dL_law_263 : decode cL_law 263 = .ok (.iload_n 3, 1) := by decide +kernel
theorem dL_law_264 : decode cL_law 264 = .ok (.iconst 1, 1) := by decide +kernel
theorem dL_law_265 : decode cL_law 265 = .ok (.iadd, 1) := by decide +kernel
theorem dL_law_266 : decode cL_law 266 = .ok (.iaload, 1) := by decide +kernel
theorem dL_law_267 : decode cL_law 267 = .ok (.aload_n 0, 1) := by decide +kernel
theorem dL_law_268 : decode cL_law 268 = .ok (.iload_n 3, 1) := by decide +kernel
theorem dL_law_269 : decode cL_law 269 = .ok (.iconst 2, 1) := by decide +kernel
theorem dL_law_270 : decode cL_law 270 = .ok (.iadd, 1) := by decide +kernel
theorem dL_law_271 : decode cL_law 271 = .ok (.iaload, 1) := by decide +kernel
theorem dL_law_272 : decode cL_law 272 = .ok (.invokevirtual 29, 3) := by decide +kernel
theorem dL_law_275 : decode cL_law 275 = .ok (.aload_n 2, 1) := by decide +kernel
theorem dL_law_276 : decode cL_law 276 = .ok (.aload_n 0, 1) := by decide +kernel
theorem dL_law_277 : decode cL_law 277 = .ok (.iload_n 3, 1) := by decide +kernel
theorem dL_law_278 : decode cL_law 278 = .ok (.iconst 1, 1) := by decide +kernel
theorem dL_law_279 : decode cL_law 279 = .ok (.iadd, 1) := by decide +kernel
theorem dL_law_280 : decode cL_law 280 = .ok (.iaload, 1) := by decide +kernel
theorem dL_law_281 : decode cL_law 281 = .ok (.aload_n 0, 1) := by decide +kernel
theorem dL_law_282 : decode cL_law 282 = .ok (.iload_n 3, 1) := by decide +kernel
theorem dL_law_283 : decode cL_law 283 = .ok (.iconst 2, 1) := by decide +kernel
theorem dL_law_284 : decode cL_law 284 = .ok (.iadd, 1) := by decide +kernel
theorem dL_law_285 : decode cL_law 285 = .ok (.iaload, 1) := by decide +kernel
theorem dL_law_286 : decode cL_law 286 = .ok (.invokevirtual 33, 3) := by decide +kernel
theorem dL_law_289 : decode cL_law 289 = .ok (.if_icmp .eq 679, 3) := by decide +kernel
theorem dL_law_292 : decode cL_law 292 = .ok (.iconst 0, 1) := by decide +kernel
theorem dL_law_293 : decode cL_law 293 = .ok (.ireturn, 1) := by decide +kernel
theorem dL_law_294 : decode cL_law 294 = .ok (.aload_n 1, 1) := by decide +kernel
theorem dL_law_295 : decode cL_law 295 = .ok (.aload_n 0, 1) := by decide +kernel
theorem dL_law_296 : decode cL_law 296 = .ok (.iload_n 3, 1) := by decide +kernel
theorem dL_law_297 : decode cL_law 297 = .ok (.iconst 1, 1) := by decide +kernel
theorem dL_law_298 : decode cL_law 298 = .ok (.iadd, 1) := by decide +kernel
theorem dL_law_299 : decode cL_law 299 = .ok (.iaload, 1) := by decide +kernel
theorem dL_law_300 : decode cL_law 300 = .ok (.aload_n 0, 1) := by decide +kernel
theorem dL_law_301 : decode cL_law 301 = .ok (.iload_n 3, 1) := by decide +kernel
theorem dL_law_302 : decode cL_law 302 = .ok (.iconst 2, 1) := by decide +kernel
theorem dL_law_303 : decode cL_law 303 = .ok (.iadd, 1) := by decide +kernel
theorem dL_law_304 : decode cL_law 304 = .ok (.iaload, 1) := by decide +kernel
theorem dL_law_305 : decode cL_law 305 = .ok (.invokevirtual 34, 3) := by decide +kernel
theorem dL_law_308 : decode cL_law 308 = .ok (.aload_n 2, 1) := by decide +kernel
theorem dL_law_309 : decode cL_law 309 = .ok (.aload_n 0, 1) := by decide +kernel
theorem dL_law_310 : decode cL_law 310 = .ok (.iload_n 3, 1) := by decide +kernel
theorem dL_law_311 : decode cL_law 311 = .ok (.iconst 1, 1) := by decide +kernel
theorem dL_law_312 : decode cL_law 312 = .ok (.iadd, 1) := by decide +kernel
theorem dL_law_313 : decode cL_law 313 = .ok (.iaload, 1) := by decide +kernel
theorem dL_law_314 : decode cL_law 314 = .ok (.aload_n 0, 1) := by decide +kernel
theorem dL_law_315 : decode cL_law 315 = .ok (.iload_n 3, 1) := by decide +kernel
theorem dL_law_316 : decode cL_law 316 = .ok (.iconst 2, 1) := by decide +kernel
theorem dL_law_317 : decode cL_law 317 = .ok (.iadd, 1) := by decide +kernel
theorem dL_law_318 : decode cL_law 318 = .ok (.iaload, 1) := by decide +kernel
theorem dL_law_319 : decode cL_law 319 = .ok (.invokevirtual 37, 3) := by decide +kernel
theorem dL_law_322 : decode cL_law 322 = .ok (.if_icmp .eq 646, 3) := by decide +kernel
theorem dL_law_325 : decode cL_law 325 = .ok (.iconst 0, 1) := by decide +kernel
theorem dL_law_326 : decode cL_law 326 = .ok (.ireturn, 1) := by decide +kernel
theorem dL_law_327 : decode cL_law 327 = .ok (.aload_n 1, 1) := by decide +kernel
theorem dL_law_328 : decode cL_law 328 = .ok (.aload_n 0, 1) := by decide +kernel
theorem dL_law_329 : decode cL_law 329 = .ok (.iload_n 3, 1) := by decide +kernel
theorem dL_law_330 : decode cL_law 330 = .ok (.iconst 1, 1) := by decide +kernel
theorem dL_law_331 : decode cL_law 331 = .ok (.iadd, 1) := by decide +kernel
theorem dL_law_332 : decode cL_law 332 = .ok (.iaload, 1) := by decide +kernel
theorem dL_law_333 : decode cL_law 333 = .ok (.aload_n 0, 1) := by decide +kernel
theorem dL_law_334 : decode cL_law 334 = .ok (.iload_n 3, 1) := by decide +kernel
theorem dL_law_335 : decode cL_law 335 = .ok (.iconst 2, 1) := by decide +kernel
theorem dL_law_336 : decode cL_law 336 = .ok (.iadd, 1) := by decide +kernel
theorem dL_law_337 : decode cL_law 337 = .ok (.iaload, 1) := by decide +kernel
theorem dL_law_338 : decode cL_law 338 = .ok (.invokevirtual 38, 3) := by decide +kernel
theorem dL_law_341 : decode cL_law 341 = .ok (.aload_n 2, 1) := by decide +kernel
theorem dL_law_342 : decode cL_law 342 = .ok (.aload_n 0, 1) := by decide +kernel
theorem dL_law_343 : decode cL_law 343 = .ok (.iload_n 3, 1) := by decide +kernel
theorem dL_law_344 : decode cL_law 344 = .ok (.iconst 1, 1) := by decide +kernel
theorem dL_law_345 : decode cL_law 345 = .ok (.iadd, 1) := by decide +kernel
theorem dL_law_346 : decode cL_law 346 = .ok (.iaload, 1) := by decide +kernel
theorem dL_law_347 : decode cL_law 347 = .ok (.aload_n 0, 1) := by decide +kernel
theorem dL_law_348 : decode cL_law 348 = .ok (.iload_n 3, 1) := by decide +kernel
theorem dL_law_349 : decode cL_law 349 = .ok (.iconst 2, 1) := by decide +kernel
theorem dL_law_350 : decode cL_law 350 = .ok (.iadd, 1) := by decide +kernel
theorem dL_law_351 : decode cL_law 351 = .ok (.iaload, 1) := by decide +kernel
theorem dL_law_352 : decode cL_law 352 = .ok (.invokevirtual 41, 3) := by decide +kernel
theorem dL_law_355 : decode cL_law 355 = .ok (.if_icmp .eq 613, 3) := by decide +kernel
theorem dL_law_358 : decode cL_law 358 = .ok (.iconst 0, 1) := by decide +kernel
theorem dL_law_359 : decode cL_law 359 = .ok (.ireturn, 1) := by decide +kernel
theorem dL_law_360 : decode cL_law 360 = .ok (.aload_n 1, 1) := by decide +kernel
theorem dL_law_361 : decode cL_law 361 = .ok (.aload_n 0, 1) := by decide +kernel
theorem dL_law_362 : decode cL_law 362 = .ok (.iload_n 3, 1) := by decide +kernel
theorem dL_law_363 : decode cL_law 363 = .ok (.iconst 1, 1) := by decide +kernel
theorem dL_law_364 : decode cL_law 364 = .ok (.iadd, 1) := by decide +kernel
theorem dL_law_365 : decode cL_law 365 = .ok (.iaload, 1) := by decide +kernel
theorem dL_law_366 : decode cL_law 366 = .ok (.aload_n 0, 1) := by decide +kernel
theorem dL_law_367 : decode cL_law 367 = .ok (.iload_n 3, 1) := by decide +kernel
theorem dL_law_368 : decode cL_law 368 = .ok (.iconst 2, 1) := by decide +kernel
theorem dL_law_369 : decode cL_law 369 = .ok (.iadd, 1) := by decide +kernel
theorem dL_law_370 : decode cL_law 370 = .ok (.iaload, 1) := by decide +kernel
theorem dL_law_371 : decode cL_law 371 = .ok (.aload_n 0, 1) := by decide +kernel
theorem dL_law_372 : decode cL_law 372 = .ok (.iload_n 3, 1) := by decide +kernel
theorem dL_law_373 : decode cL_law 373 = .ok (.iconst 3, 1) := by decide +kernel
theorem dL_law_374 : decode cL_law 374 = .ok (.iadd, 1) := by decide +kernel
theorem dL_law_375 : decode cL_law 375 = .ok (.iaload, 1) := by decide +kernel
theorem dL_law_376 : decode cL_law 376 = .ok (.invokevirtual 42, 3) := by decide +kernel
theorem dL_law_379 : decode cL_law 379 = .ok (.aload_n 2, 1) := by decide +kernel
theorem dL_law_380 : decode cL_law 380 = .ok (.aload_n 0, 1) := by decide +kernel
theorem dL_law_381 : decode cL_law 381 = .ok (.iload_n 3, 1) := by decide +kernel
theorem dL_law_382 : decode cL_law 382 = .ok (.iconst 1, 1) := by decide +kernel
theorem dL_law_383 : decode cL_law 383 = .ok (.iadd, 1) := by decide +kernel
theorem dL_law_384 : decode cL_law 384 = .ok (.iaload, 1) := by decide +kernel
theorem dL_law_385 : decode cL_law 385 = .ok (.aload_n 0, 1) := by decide +kernel
theorem dL_law_386 : decode cL_law 386 = .ok (.iload_n 3, 1) := by decide +kernel
theorem dL_law_387 : decode cL_law 387 = .ok (.iconst 2, 1) := by decide +kernel
theorem dL_law_388 : decode cL_law 388 = .ok (.iadd, 1) := by decide +kernel
theorem dL_law_389 : decode cL_law 389 = .ok (.iaload, 1) := by decide +kernel
theorem dL_law_390 : decode cL_law 390 = .ok (.aload_n 0, 1) := by decide +kernel
theorem dL_law_391 : decode cL_law 391 = .ok (.iload_n 3, 1) := by decide +kernel
theorem dL_law_392 : decode cL_law 392 = .ok (.iconst 3, 1) := by decide +kernel
theorem dL_law_393 : decode cL_law 393 = .ok (.iadd, 1) := by decide +kernel
theorem dL_law_394 : decode cL_law 394 = .ok (.iaload, 1) := by decide +kernel
theorem dL_law_395 : decode cL_law 395 = .ok (.invokevirtual 46, 3) := by decide +kernel
theorem dL_law_398 : decode cL_law 398 = .ok (.if_icmp .eq 570, 3) := by decide +kernel
theorem dL_law_401 : decode cL_law 401 = .ok (.iconst 0, 1) := by decide +kernel
theorem dL_law_402 : decode cL_law 402 = .ok (.ireturn, 1) := by decide +kernel
theorem dL_law_403 : decode cL_law 403 = .ok (.aload_n 1, 1) := by decide +kernel
theorem dL_law_404 : decode cL_law 404 = .ok (.aload_n 0, 1) := by decide +kernel
theorem dL_law_405 : decode cL_law 405 = .ok (.iload_n 3, 1) := by decide +kernel
theorem dL_law_406 : decode cL_law 406 = .ok (.iconst 1, 1) := by decide +kernel
theorem dL_law_407 : decode cL_law 407 = .ok (.iadd, 1) := by decide +kernel
theorem dL_law_408 : decode cL_law 408 = .ok (.iaload, 1) := by decide +kernel
theorem dL_law_409 : decode cL_law 409 = .ok (.invokevirtual 47, 3) := by decide +kernel
theorem dL_law_412 : decode cL_law 412 = .ok (.aload_n 2, 1) := by decide +kernel
theorem dL_law_413 : decode cL_law 413 = .ok (.aload_n 0, 1) := by decide +kernel
theorem dL_law_414 : decode cL_law 414 = .ok (.iload_n 3, 1) := by decide +kernel
theorem dL_law_415 : decode cL_law 415 = .ok (.iconst 1, 1) := by decide +kernel
theorem dL_law_416 : decode cL_law 416 = .ok (.iadd, 1) := by decide +kernel
theorem dL_law_417 : decode cL_law 417 = .ok (.iaload, 1) := by decide +kernel
theorem dL_law_418 : decode cL_law 418 = .ok (.invokevirtual 51, 3) := by decide +kernel
theorem dL_law_421 : decode cL_law 421 = .ok (.if_icmp .eq 547, 3) := by decide +kernel
theorem dL_law_424 : decode cL_law 424 = .ok (.iconst 0, 1) := by decide +kernel
theorem dL_law_425 : decode cL_law 425 = .ok (.ireturn, 1) := by decide +kernel
theorem dL_law_426 : decode cL_law 426 = .ok (.aload_n 1, 1) := by decide +kernel
theorem dL_law_427 : decode cL_law 427 = .ok (.aload_n 0, 1) := by decide +kernel
theorem dL_law_428 : decode cL_law 428 = .ok (.iload_n 3, 1) := by decide +kernel
theorem dL_law_429 : decode cL_law 429 = .ok (.iconst 1, 1) := by decide +kernel
theorem dL_law_430 : decode cL_law 430 = .ok (.iadd, 1) := by decide +kernel
theorem dL_law_431 : decode cL_law 431 = .ok (.iaload, 1) := by decide +kernel
theorem dL_law_432 : decode cL_law 432 = .ok (.invokevirtual 52, 3) := by decide +kernel
theorem dL_law_435 : decode cL_law 435 = .ok (.aload_n 2, 1) := by decide +kernel
theorem dL_law_436 : decode cL_law 436 = .ok (.aload_n 0, 1) := by decide +kernel
theorem dL_law_437 : decode cL_law 437 = .ok (.iload_n 3, 1) := by decide +kernel
theorem dL_law_438 : decode cL_law 438 = .ok (.iconst 1, 1) := by decide +kernel
theorem dL_law_439 : decode cL_law 439 = .ok (.iadd, 1) := by decide +kernel
theorem dL_law_440 : decode cL_law 440 = .ok (.iaload, 1) := by decide +kernel
theorem dL_law_441 : decode cL_law 441 = .ok (.invokevirtual 55, 3) := by decide +kernel
theorem dL_law_444 : decode cL_law 444 = .ok (.if_icmp .eq 524, 3) := by decide +kernel
theorem dL_law_447 : decode cL_law 447 = .ok (.iconst 0, 1) := by decide +kernel
theorem dL_law_448 : decode cL_law 448 = .ok (.ireturn, 1) := by decide +kernel
theorem dL_law_449 : decode cL_law 449 = .ok (.aload_n 1, 1) := by decide +kernel
theorem dL_law_450 : decode cL_law 450 = .ok (.aload_n 0, 1) := by decide +kernel
theorem dL_law_451 : decode cL_law 451 = .ok (.iload_n 3, 1) := by decide +kernel
theorem dL_law_452 : decode cL_law 452 = .ok (.iconst 1, 1) := by decide +kernel
theorem dL_law_453 : decode cL_law 453 = .ok (.iadd, 1) := by decide +kernel
theorem dL_law_454 : decode cL_law 454 = .ok (.iaload, 1) := by decide +kernel
theorem dL_law_455 : decode cL_law 455 = .ok (.invokevirtual 56, 3) := by decide +kernel
theorem dL_law_458 : decode cL_law 458 = .ok (.aload_n 2, 1) := by decide +kernel
theorem dL_law_459 : decode cL_law 459 = .ok (.aload_n 0, 1) := by decide +kernel
theorem dL_law_460 : decode cL_law 460 = .ok (.iload_n 3, 1) := by decide +kernel
theorem dL_law_461 : decode cL_law 461 = .ok (.iconst 1, 1) := by decide +kernel
theorem dL_law_462 : decode cL_law 462 = .ok (.iadd, 1) := by decide +kernel
theorem dL_law_463 : decode cL_law 463 = .ok (.iaload, 1) := by decide +kernel
theorem dL_law_464 : decode cL_law 464 = .ok (.invokevirtual 59, 3) := by decide +kernel
theorem dL_law_467 : decode cL_law 467 = .ok (.if_icmp .eq 501, 3) := by decide +kernel
theorem dL_law_470 : decode cL_law 470 = .ok (.iconst 0, 1) := by decide +kernel
theorem dL_law_471 : decode cL_law 471 = .ok (.ireturn, 1) := by decide +kernel
theorem dL_law_472 : decode cL_law 472 = .ok (.aload_n 1, 1) := by decide +kernel
theorem dL_law_473 : decode cL_law 473 = .ok (.invokevirtual 60, 3) := by decide +kernel
theorem dL_law_476 : decode cL_law 476 = .ok (.aload_n 2, 1) := by decide +kernel
theorem dL_law_477 : decode cL_law 477 = .ok (.invokevirtual 63, 3) := by decide +kernel
theorem dL_law_480 : decode cL_law 480 = .ok (.if_icmp .eq 488, 3) := by decide +kernel
theorem dL_law_483 : decode cL_law 483 = .ok (.iconst 0, 1) := by decide +kernel
theorem dL_law_484 : decode cL_law 484 = .ok (.ireturn, 1) := by decide +kernel
theorem dL_law_485 : decode cL_law 485 = .ok (.aload_n 1, 1) := by decide +kernel
theorem dL_law_486 : decode cL_law 486 = .ok (.aload_n 0, 1) := by decide +kernel
theorem dL_law_487 : decode cL_law 487 = .ok (.iload_n 3, 1) := by decide +kernel
theorem dL_law_488 : decode cL_law 488 = .ok (.iconst 1, 1) := by decide +kernel
theorem dL_law_489 : decode cL_law 489 = .ok (.iadd, 1) := by decide +kernel
theorem dL_law_490 : decode cL_law 490 = .ok (.iaload, 1) := by decide +kernel
theorem dL_law_491 : decode cL_law 491 = .ok (.invokevirtual 64, 3) := by decide +kernel
theorem dL_law_494 : decode cL_law 494 = .ok (.aload_n 2, 1) := by decide +kernel
theorem dL_law_495 : decode cL_law 495 = .ok (.aload_n 0, 1) := by decide +kernel
theorem dL_law_496 : decode cL_law 496 = .ok (.iload_n 3, 1) := by decide +kernel
theorem dL_law_497 : decode cL_law 497 = .ok (.iconst 1, 1) := by decide +kernel
theorem dL_law_498 : decode cL_law 498 = .ok (.iadd, 1) := by decide +kernel
theorem dL_law_499 : decode cL_law 499 = .ok (.iaload, 1) := by decide +kernel
theorem dL_law_500 : decode cL_law 500 = .ok (.invokevirtual 67, 3) := by decide +kernel
theorem dL_law_503 : decode cL_law 503 = .ok (.if_icmp .eq 465, 3) := by decide +kernel
theorem dL_law_506 : decode cL_law 506 = .ok (.iconst 0, 1) := by decide +kernel
theorem dL_law_507 : decode cL_law 507 = .ok (.ireturn, 1) := by decide +kernel
theorem dL_law_508 : decode cL_law 508 = .ok (.aload_n 1, 1) := by decide +kernel
theorem dL_law_509 : decode cL_law 509 = .ok (.aload_n 0, 1) := by decide +kernel
theorem dL_law_510 : decode cL_law 510 = .ok (.iload_n 3, 1) := by decide +kernel
theorem dL_law_511 : decode cL_law 511 = .ok (.iconst 1, 1) := by decide +kernel
theorem dL_law_512 : decode cL_law 512 = .ok (.iadd, 1) := by decide +kernel
theorem dL_law_513 : decode cL_law 513 = .ok (.iaload, 1) := by decide +kernel
theorem dL_law_514 : decode cL_law 514 = .ok (.invokevirtual 68, 3) := by decide +kernel
theorem dL_law_517 : decode cL_law 517 = .ok (.aload_n 2, 1) := by decide +kernel
theorem dL_law_518 : decode cL_law 518 = .ok (.aload_n 0, 1) := by decide +kernel
theorem dL_law_519 : decode cL_law 519 = .ok (.iload_n 3, 1) := by decide +kernel
theorem dL_law_520 : decode cL_law 520 = .ok (.iconst 1, 1) := by decide +kernel
theorem dL_law_521 : decode cL_law 521 = .ok (.iadd, 1) := by decide +kernel
theorem dL_law_522 : decode cL_law 522 = .ok (.iaload, 1) := by decide +kernel
theorem dL_law_523 : decode cL_law 523 = .ok (.invokevirtual 71, 3) := by decide +kernel
theorem dL_law_526 : decode cL_law 526 = .ok (.if_icmp .eq 442, 3) := by decide +kernel
theorem dL_law_529 : decode cL_law 529 = .ok (.iconst 0, 1) := by decide +kernel
theorem dL_law_530 : decode cL_law 530 = .ok (.ireturn, 1) := by decide +kernel
theorem dL_law_531 : decode cL_law 531 = .ok (.aload_n 1, 1) := by decide +kernel
theorem dL_law_532 : decode cL_law 532 = .ok (.aload_n 0, 1) := by decide +kernel
theorem dL_law_533 : decode cL_law 533 = .ok (.iload_n 3, 1) := by decide +kernel
theorem dL_law_534 : decode cL_law 534 = .ok (.iconst 1, 1) := by decide +kernel
theorem dL_law_535 : decode cL_law 535 = .ok (.iadd, 1) := by decide +kernel
theorem dL_law_536 : decode cL_law 536 = .ok (.iaload, 1) := by decide +kernel
theorem dL_law_537 : decode cL_law 537 = .ok (.invokevirtual 72, 3) := by decide +kernel
theorem dL_law_540 : decode cL_law 540 = .ok (.aload_n 2, 1) := by decide +kernel
theorem dL_law_541 : decode cL_law 541 = .ok (.aload_n 0, 1) := by decide +kernel
theorem dL_law_542 : decode cL_law 542 = .ok (.iload_n 3, 1) := by decide +kernel
theorem dL_law_543 : decode cL_law 543 = .ok (.iconst 1, 1) := by decide +kernel
theorem dL_law_544 : decode cL_law 544 = .ok (.iadd, 1) := by decide +kernel
theorem dL_law_545 : decode cL_law 545 = .ok (.iaload, 1) := by decide +kernel
theorem dL_law_546 : decode cL_law 546 = .ok (.invokevirtual 75, 3) := by decide +kernel
theorem dL_law_549 : decode cL_law 549 = .ok (.if_icmp .eq 419, 3) := by decide +kernel
theorem dL_law_552 : decode cL_law 552 = .ok (.iconst 0, 1) := by decide +kernel
theorem dL_law_553 : decode cL_law 553 = .ok (.ireturn, 1) := by decide +kernel
theorem dL_law_554 : decode cL_law 554 = .ok (.aload_n 1, 1) := by decide +kernel
theorem dL_law_555 : decode cL_law 555 = .ok (.aload_n 0, 1) := by decide +kernel
theorem dL_law_556 : decode cL_law 556 = .ok (.iload_n 3, 1) := by decide +kernel
theorem dL_law_557 : decode cL_law 557 = .ok (.iconst 1, 1) := by decide +kernel
theorem dL_law_558 : decode cL_law 558 = .ok (.iadd, 1) := by decide +kernel
theorem dL_law_559 : decode cL_law 559 = .ok (.iaload, 1) := by decide +kernel
theorem dL_law_560 : decode cL_law 560 = .ok (.invokevirtual 76, 3) := by decide +kernel
theorem dL_law_563 : decode cL_law 563 = .ok (.aload_n 2, 1) := by decide +kernel
theorem dL_law_564 : decode cL_law 564 = .ok (.aload_n 0, 1) := by decide +kernel
theorem dL_law_565 : decode cL_law 565 = .ok (.iload_n 3, 1) := by decide +kernel
theorem dL_law_566 : decode cL_law 566 = .ok (.iconst 1, 1) := by decide +kernel
theorem dL_law_567 : decode cL_law 567 = .ok (.iadd, 1) := by decide +kernel
theorem dL_law_568 : decode cL_law 568 = .ok (.iaload, 1) := by decide +kernel
theorem dL_law_569 : decode cL_law 569 = .ok (.invokevirtual 79, 3) := by decide +kernel
theorem dL_law_572 : decode cL_law 572 = .ok (.if_icmp .eq 396, 3) := by decide +kernel
theorem dL_law_575 : decode cL_law 575 = .ok (.iconst 0, 1) := by decide +kernel
theorem dL_law_576 : decode cL_law 576 = .ok (.ireturn, 1) := by decide +kernel
theorem dL_law_577 : decode cL_law 577 = .ok (.aload_n 1, 1) := by decide +kernel
theorem dL_law_578 : decode cL_law 578 = .ok (.aload_n 0, 1) := by decide +kernel
theorem dL_law_579 : decode cL_law 579 = .ok (.iload_n 3, 1) := by decide +kernel
theorem dL_law_580 : decode cL_law 580 = .ok (.iconst 1, 1) := by decide +kernel
theorem dL_law_581 : decode cL_law 581 = .ok (.iadd, 1) := by decide +kernel
theorem dL_law_582 : decode cL_law 582 = .ok (.iaload, 1) := by decide +kernel
theorem dL_law_583 : decode cL_law 583 = .ok (.invokevirtual 80, 3) := by decide +kernel
theorem dL_law_586 : decode cL_law 586 = .ok (.aload_n 2, 1) := by decide +kernel
theorem dL_law_587 : decode cL_law 587 = .ok (.aload_n 0, 1) := by decide +kernel
theorem dL_law_588 : decode cL_law 588 = .ok (.iload_n 3, 1) := by decide +kernel
theorem dL_law_589 : decode cL_law 589 = .ok (.iconst 1, 1) := by decide +kernel
theorem dL_law_590 : decode cL_law 590 = .ok (.iadd, 1) := by decide +kernel
theorem dL_law_591 : decode cL_law 591 = .ok (.iaload, 1) := by decide +kernel
theorem dL_law_592 : decode cL_law 592 = .ok (.invokevirtual 83, 3) := by decide +kernel
theorem dL_law_595 : decode cL_law 595 = .ok (.if_icmp .eq 373, 3) := by decide +kernel
theorem dL_law_598 : decode cL_law 598 = .ok (.iconst 0, 1) := by decide +kernel
theorem dL_law_599 : decode cL_law 599 = .ok (.ireturn, 1) := by decide +kernel
theorem dL_law_600 : decode cL_law 600 = .ok (.aload_n 1, 1) := by decide +kernel
theorem dL_law_601 : decode cL_law 601 = .ok (.aload_n 0, 1) := by decide +kernel
theorem dL_law_602 : decode cL_law 602 = .ok (.iload_n 3, 1) := by decide +kernel
theorem dL_law_603 : decode cL_law 603 = .ok (.iconst 1, 1) := by decide +kernel
theorem dL_law_604 : decode cL_law 604 = .ok (.iadd, 1) := by decide +kernel
theorem dL_law_605 : decode cL_law 605 = .ok (.iaload, 1) := by decide +kernel
theorem dL_law_606 : decode cL_law 606 = .ok (.invokevirtual 84, 3) := by decide +kernel
theorem dL_law_609 : decode cL_law 609 = .ok (.aload_n 2, 1) := by decide +kernel
theorem dL_law_610 : decode cL_law 610 = .ok (.aload_n 0, 1) := by decide +kernel
theorem dL_law_611 : decode cL_law 611 = .ok (.iload_n 3, 1) := by decide +kernel
theorem dL_law_612 : decode cL_law 612 = .ok (.iconst 1, 1) := by decide +kernel
theorem dL_law_613 : decode cL_law 613 = .ok (.iadd, 1) := by decide +kernel
theorem dL_law_614 : decode cL_law 614 = .ok (.iaload, 1) := by decide +kernel
theorem dL_law_615 : decode cL_law 615 = .ok (.invokevirtual 87, 3) := by decide +kernel
theorem dL_law_618 : decode cL_law 618 = .ok (.if_icmp .eq 350, 3) := by decide +kernel
theorem dL_law_621 : decode cL_law 621 = .ok (.iconst 0, 1) := by decide +kernel
theorem dL_law_622 : decode cL_law 622 = .ok (.ireturn, 1) := by decide +kernel
theorem dL_law_623 : decode cL_law 623 = .ok (.aload_n 1, 1) := by decide +kernel
theorem dL_law_624 : decode cL_law 624 = .ok (.aload_n 0, 1) := by decide +kernel
theorem dL_law_625 : decode cL_law 625 = .ok (.iload_n 3, 1) := by decide +kernel
theorem dL_law_626 : decode cL_law 626 = .ok (.iconst 1, 1) := by decide +kernel
theorem dL_law_627 : decode cL_law 627 = .ok (.iadd, 1) := by decide +kernel
theorem dL_law_628 : decode cL_law 628 = .ok (.iaload, 1) := by decide +kernel
theorem dL_law_629 : decode cL_law 629 = .ok (.invokevirtual 88, 3) := by decide +kernel
theorem dL_law_632 : decode cL_law 632 = .ok (.aload_n 2, 1) := by decide +kernel
theorem dL_law_633 : decode cL_law 633 = .ok (.aload_n 0, 1) := by decide +kernel
theorem dL_law_634 : decode cL_law 634 = .ok (.iload_n 3, 1) := by decide +kernel
theorem dL_law_635 : decode cL_law 635 = .ok (.iconst 1, 1) := by decide +kernel
theorem dL_law_636 : decode cL_law 636 = .ok (.iadd, 1) := by decide +kernel
theorem dL_law_637 : decode cL_law 637 = .ok (.iaload, 1) := by decide +kernel
theorem dL_law_638 : decode cL_law 638 = .ok (.invokevirtual 91, 3) := by decide +kernel
theorem dL_law_641 : decode cL_law 641 = .ok (.if_icmp .eq 327, 3) := by decide +kernel
theorem dL_law_644 : decode cL_law 644 = .ok (.iconst 0, 1) := by decide +kernel
theorem dL_law_645 : decode cL_law 645 = .ok (.ireturn, 1) := by decide +kernel
theorem dL_law_646 : decode cL_law 646 = .ok (.aload_n 1, 1) := by decide +kernel
theorem dL_law_647 : decode cL_law 647 = .ok (.aload_n 0, 1) := by decide +kernel
theorem dL_law_648 : decode cL_law 648 = .ok (.iload_n 3, 1) := by decide +kernel
theorem dL_law_649 : decode cL_law 649 = .ok (.iconst 1, 1) := by decide +kernel
theorem dL_law_650 : decode cL_law 650 = .ok (.iadd, 1) := by decide +kernel
theorem dL_law_651 : decode cL_law 651 = .ok (.iaload, 1) := by decide +kernel
theorem dL_law_652 : decode cL_law 652 = .ok (.invokevirtual 92, 3) := by decide +kernel
theorem dL_law_655 : decode cL_law 655 = .ok (.aload_n 2, 1) := by decide +kernel
theorem dL_law_656 : decode cL_law 656 = .ok (.aload_n 0, 1) := by decide +kernel
theorem dL_law_657 : decode cL_law 657 = .ok (.iload_n 3, 1) := by decide +kernel
theorem dL_law_658 : decode cL_law 658 = .ok (.iconst 1, 1) := by decide +kernel
theorem dL_law_659 : decode cL_law 659 = .ok (.iadd, 1) := by decide +kernel
theorem dL_law_660 : decode cL_law 660 = .ok (.iaload, 1) := by decide +kernel
theorem dL_law_661 : decode cL_law 661 = .ok (.invokevirtual 95, 3) := by decide +kernel
theorem dL_law_664 : decode cL_law 664 = .ok (.if_icmp .eq 304, 3) := by decide +kernel
theorem dL_law_667 : decode cL_law 667 = .ok (.iconst 0, 1) := by decide +kernel
theorem dL_law_668 : decode cL_law 668 = .ok (.ireturn, 1) := by decide +kernel
theorem dL_law_669 : decode cL_law 669 = .ok (.aload_n 1, 1) := by decide +kernel
theorem dL_law_670 : decode cL_law 670 = .ok (.invokevirtual 96, 3) := by decide +kernel
theorem dL_law_673 : decode cL_law 673 = .ok (.aload_n 2, 1) := by decide +kernel
theorem dL_law_674 : decode cL_law 674 = .ok (.invokevirtual 99, 3) := by decide +kernel
theorem dL_law_677 : decode cL_law 677 = .ok (.if_icmp .eq 291, 3) := by decide +kernel
theorem dL_law_680 : decode cL_law 680 = .ok (.iconst 0, 1) := by decide +kernel
theorem dL_law_681 : decode cL_law 681 = .ok (.ireturn, 1) := by decide +kernel
theorem dL_law_682 : decode cL_law 682 = .ok (.aload_n 1, 1) := by decide +kernel
theorem dL_law_683 : decode cL_law 683 = .ok (.aload_n 0, 1) := by decide +kernel
theorem dL_law_684 : decode cL_law 684 = .ok (.iload_n 3, 1) := by decide +kernel
theorem dL_law_685 : decode cL_law 685 = .ok (.iconst 1, 1) := by decide +kernel
theorem dL_law_686 : decode cL_law 686 = .ok (.iadd, 1) := by decide +kernel
theorem dL_law_687 : decode cL_law 687 = .ok (.iaload, 1) := by decide +kernel
theorem dL_law_688 : decode cL_law 688 = .ok (.invokevirtual 100, 3) := by decide +kernel
theorem dL_law_691 : decode cL_law 691 = .ok (.aload_n 2, 1) := by decide +kernel
theorem dL_law_692 : decode cL_law 692 = .ok (.aload_n 0, 1) := by decide +kernel
theorem dL_law_693 : decode cL_law 693 = .ok (.iload_n 3, 1) := by decide +kernel
theorem dL_law_694 : decode cL_law 694 = .ok (.iconst 1, 1) := by decide +kernel
theorem dL_law_695 : decode cL_law 695 = .ok (.iadd, 1) := by decide +kernel
theorem dL_law_696 : decode cL_law 696 = .ok (.iaload, 1) := by decide +kernel
theorem dL_law_697 : decode cL_law 697 = .ok (.invokevirtual 103, 3) := by decide +kernel
theorem dL_law_700 : decode cL_law 700 = .ok (.if_icmp .eq 268, 3) := by decide +kernel
theorem dL_law_703 : decode cL_law 703 = .ok (.iconst 0, 1) := by decide +kernel
theorem dL_law_704 : decode cL_law 704 = .ok (.ireturn, 1) := by decide +kernel
theorem dL_law_705 : decode cL_law 705 = .ok (.aload_n 1, 1) := by decide +kernel
theorem dL_law_706 : decode cL_law 706 = .ok (.aload_n 0, 1) := by decide +kernel
theorem dL_law_707 : decode cL_law 707 = .ok (.iload_n 3, 1) := by decide +kernel
theorem dL_law_708 : decode cL_law 708 = .ok (.iconst 1, 1) := by decide +kernel
theorem dL_law_709 : decode cL_law 709 = .ok (.iadd, 1) := by decide +kernel
theorem dL_law_710 : decode cL_law 710 = .ok (.iaload, 1) := by decide +kernel
theorem dL_law_711 : decode cL_law 711 = .ok (.aload_n 0, 1) := by decide +kernel
theorem dL_law_712 : decode cL_law 712 = .ok (.iload_n 3, 1) := by decide +kernel
theorem dL_law_713 : decode cL_law 713 = .ok (.iconst 2, 1) := by decide +kernel
theorem dL_law_714 : decode cL_law 714 = .ok (.iadd, 1) := by decide +kernel
theorem dL_law_715 : decode cL_law 715 = .ok (.iaload, 1) := by decide +kernel
theorem dL_law_716 : decode cL_law 716 = .ok (.aload_n 0, 1) := by decide +kernel
theorem dL_law_717 : decode cL_law 717 = .ok (.iload_n 3, 1) := by decide +kernel
theorem dL_law_718 : decode cL_law 718 = .ok (.iconst 3, 1) := by decide +kernel
theorem dL_law_719 : decode cL_law 719 = .ok (.iadd, 1) := by decide +kernel
theorem dL_law_720 : decode cL_law 720 = .ok (.iaload, 1) := by decide +kernel
theorem dL_law_721 : decode cL_law 721 = .ok (.aload_n 0, 1) := by decide +kernel
theorem dL_law_722 : decode cL_law 722 = .ok (.iload_n 3, 1) := by decide +kernel
theorem dL_law_723 : decode cL_law 723 = .ok (.iconst 4, 1) := by decide +kernel
theorem dL_law_724 : decode cL_law 724 = .ok (.iadd, 1) := by decide +kernel
theorem dL_law_725 : decode cL_law 725 = .ok (.iaload, 1) := by decide +kernel
theorem dL_law_726 : decode cL_law 726 = .ok (.invokevirtual 104, 3) := by decide +kernel
theorem dL_law_729 : decode cL_law 729 = .ok (.aload_n 2, 1) := by decide +kernel
theorem dL_law_730 : decode cL_law 730 = .ok (.aload_n 0, 1) := by decide +kernel
theorem dL_law_731 : decode cL_law 731 = .ok (.iload_n 3, 1) := by decide +kernel
theorem dL_law_732 : decode cL_law 732 = .ok (.iconst 1, 1) := by decide +kernel
theorem dL_law_733 : decode cL_law 733 = .ok (.iadd, 1) := by decide +kernel
theorem dL_law_734 : decode cL_law 734 = .ok (.iaload, 1) := by decide +kernel
theorem dL_law_735 : decode cL_law 735 = .ok (.aload_n 0, 1) := by decide +kernel
theorem dL_law_736 : decode cL_law 736 = .ok (.iload_n 3, 1) := by decide +kernel
theorem dL_law_737 : decode cL_law 737 = .ok (.iconst 2, 1) := by decide +kernel
theorem dL_law_738 : decode cL_law 738 = .ok (.iadd, 1) := by decide +kernel
theorem dL_law_739 : decode cL_law 739 = .ok (.iaload, 1) := by decide +kernel
theorem dL_law_740 : decode cL_law 740 = .ok (.aload_n 0, 1) := by decide +kernel
theorem dL_law_741 : decode cL_law 741 = .ok (.iload_n 3, 1) := by decide +kernel
theorem dL_law_742 : decode cL_law 742 = .ok (.iconst 3, 1) := by decide +kernel
theorem dL_law_743 : decode cL_law 743 = .ok (.iadd, 1) := by decide +kernel
theorem dL_law_744 : decode cL_law 744 = .ok (.iaload, 1) := by decide +kernel
theorem dL_law_745 : decode cL_law 745 = .ok (.aload_n 0, 1) := by decide +kernel
theorem dL_law_746 : decode cL_law 746 = .ok (.iload_n 3, 1) := by decide +kernel
theorem dL_law_747 : decode cL_law 747 = .ok (.iconst 4, 1) := by decide +kernel
theorem dL_law_748 : decode cL_law 748 = .ok (.iadd, 1) := by decide +kernel
theorem dL_law_749 : decode cL_law 749 = .ok (.iaload, 1) := by decide +kernel
theorem dL_law_750 : decode cL_law 750 = .ok (.invokevirtual 108, 3) := by decide +kernel
theorem dL_law_753 : decode cL_law 753 = .ok (.lcmp, 1) := by decide +kernel
theorem dL_law_754 : decode cL_law 754 = .ok (.ifCond .eq 214, 3) := by decide +kernel
theorem dL_law_757 : decode cL_law 757 = .ok (.iconst 0, 1) := by decide +kernel
theorem dL_law_758 : decode cL_law 758 = .ok (.ireturn, 1) := by decide +kernel
theorem dL_law_759 : decode cL_law 759 = .ok (.aload_n 1, 1) := by decide +kernel
theorem dL_law_760 : decode cL_law 760 = .ok (.aload_n 0, 1) := by decide +kernel
theorem dL_law_761 : decode cL_law 761 = .ok (.iload_n 3, 1) := by decide +kernel
theorem dL_law_762 : decode cL_law 762 = .ok (.iconst 1, 1) := by decide +kernel
theorem dL_law_763 : decode cL_law 763 = .ok (.iadd, 1) := by decide +kernel
theorem dL_law_764 : decode cL_law 764 = .ok (.iaload, 1) := by decide +kernel
theorem dL_law_765 : decode cL_law 765 = .ok (.invokevirtual 109, 3) := by decide +kernel
theorem dL_law_768 : decode cL_law 768 = .ok (.aload_n 2, 1) := by decide +kernel
theorem dL_law_769 : decode cL_law 769 = .ok (.aload_n 0, 1) := by decide +kernel
theorem dL_law_770 : decode cL_law 770 = .ok (.iload_n 3, 1) := by decide +kernel
theorem dL_law_771 : decode cL_law 771 = .ok (.iconst 1, 1) := by decide +kernel
theorem dL_law_772 : decode cL_law 772 = .ok (.iadd, 1) := by decide +kernel
theorem dL_law_773 : decode cL_law 773 = .ok (.iaload, 1) := by decide +kernel
theorem dL_law_774 : decode cL_law 774 = .ok (.invokevirtual 112, 3) := by decide +kernel
theorem dL_law_777 : decode cL_law 777 = .ok (.if_icmp .eq 191, 3) := by decide +kernel
theorem dL_law_780 : decode cL_law 780 = .ok (.iconst 0, 1) := by decide +kernel
theorem dL_law_781 : decode cL_law 781 = .ok (.ireturn, 1) := by decide +kernel
theorem dL_law_782 : decode cL_law 782 = .ok (.aload_n 1, 1) := by decide +kernel
theorem dL_law_783 : decode cL_law 783 = .ok (.invokevirtual 113, 3) := by decide +kernel
theorem dL_law_786 : decode cL_law 786 = .ok (.aload_n 2, 1) := by decide +kernel
theorem dL_law_787 : decode cL_law 787 = .ok (.invokevirtual 116, 3) := by decide +kernel
theorem dL_law_790 : decode cL_law 790 = .ok (.if_icmp .eq 178, 3) := by decide +kernel
theorem dL_law_793 : decode cL_law 793 = .ok (.iconst 0, 1) := by decide +kernel
theorem dL_law_794 : decode cL_law 794 = .ok (.ireturn, 1) := by decide +kernel
theorem dL_law_795 : decode cL_law 795 = .ok (.aload_n 1, 1) := by decide +kernel
theorem dL_law_796 : decode cL_law 796 = .ok (.aload_n 0, 1) := by decide +kernel
theorem dL_law_797 : decode cL_law 797 = .ok (.iload_n 3, 1) := by decide +kernel
theorem dL_law_798 : decode cL_law 798 = .ok (.iconst 1, 1) := by decide +kernel
theorem dL_law_799 : decode cL_law 799 = .ok (.iadd, 1) := by decide +kernel
theorem dL_law_800 : decode cL_law 800 = .ok (.iaload, 1) := by decide +kernel
theorem dL_law_801 : decode cL_law 801 = .ok (.invokevirtual 117, 3) := by decide +kernel
theorem dL_law_804 : decode cL_law 804 = .ok (.aload_n 2, 1) := by decide +kernel
theorem dL_law_805 : decode cL_law 805 = .ok (.aload_n 0, 1) := by decide +kernel
theorem dL_law_806 : decode cL_law 806 = .ok (.iload_n 3, 1) := by decide +kernel
theorem dL_law_807 : decode cL_law 807 = .ok (.iconst 1, 1) := by decide +kernel
theorem dL_law_808 : decode cL_law 808 = .ok (.iadd, 1) := by decide +kernel
theorem dL_law_809 : decode cL_law 809 = .ok (.iaload, 1) := by decide +kernel
theorem dL_law_810 : decode cL_law 810 = .ok (.invokevirtual 120, 3) := by decide +kernel
theorem dL_law_813 : decode cL_law 813 = .ok (.if_icmp .eq 155, 3) := by decide +kernel
theorem dL_law_816 : decode cL_law 816 = .ok (.iconst 0, 1) := by decide +kernel
theorem dL_law_817 : decode cL_law 817 = .ok (.ireturn, 1) := by decide +kernel
theorem dL_law_818 : decode cL_law 818 = .ok (.aload_n 1, 1) := by decide +kernel
theorem dL_law_819 : decode cL_law 819 = .ok (.aload_n 0, 1) := by decide +kernel
theorem dL_law_820 : decode cL_law 820 = .ok (.iload_n 3, 1) := by decide +kernel
theorem dL_law_821 : decode cL_law 821 = .ok (.iconst 1, 1) := by decide +kernel
theorem dL_law_822 : decode cL_law 822 = .ok (.iadd, 1) := by decide +kernel
theorem dL_law_823 : decode cL_law 823 = .ok (.iaload, 1) := by decide +kernel
theorem dL_law_824 : decode cL_law 824 = .ok (.aload_n 0, 1) := by decide +kernel
theorem dL_law_825 : decode cL_law 825 = .ok (.iload_n 3, 1) := by decide +kernel
theorem dL_law_826 : decode cL_law 826 = .ok (.iconst 2, 1) := by decide +kernel
theorem dL_law_827 : decode cL_law 827 = .ok (.iadd, 1) := by decide +kernel
theorem dL_law_828 : decode cL_law 828 = .ok (.iaload, 1) := by decide +kernel
theorem dL_law_829 : decode cL_law 829 = .ok (.invokevirtual 121, 3) := by decide +kernel
theorem dL_law_832 : decode cL_law 832 = .ok (.aload_n 2, 1) := by decide +kernel
theorem dL_law_833 : decode cL_law 833 = .ok (.aload_n 0, 1) := by decide +kernel
theorem dL_law_834 : decode cL_law 834 = .ok (.iload_n 3, 1) := by decide +kernel
theorem dL_law_835 : decode cL_law 835 = .ok (.iconst 1, 1) := by decide +kernel
theorem dL_law_836 : decode cL_law 836 = .ok (.iadd, 1) := by decide +kernel
theorem dL_law_837 : decode cL_law 837 = .ok (.iaload, 1) := by decide +kernel
theorem dL_law_838 : decode cL_law 838 = .ok (.aload_n 0, 1) := by decide +kernel
theorem dL_law_839 : decode cL_law 839 = .ok (.iload_n 3, 1) := by decide +kernel
theorem dL_law_840 : decode cL_law 840 = .ok (.iconst 2, 1) := by decide +kernel
theorem dL_law_841 : decode cL_law 841 = .ok (.iadd, 1) := by decide +kernel
theorem dL_law_842 : decode cL_law 842 = .ok (.iaload, 1) := by decide +kernel
theorem dL_law_843 : decode cL_law 843 = .ok (.invokevirtual 125, 3) := by decide +kernel
theorem dL_law_846 : decode cL_law 846 = .ok (.lcmp, 1) := by decide +kernel
theorem dL_law_847 : decode cL_law 847 = .ok (.ifCond .eq 121, 3) := by decide +kernel
theorem dL_law_850 : decode cL_law 850 = .ok (.iconst 0, 1) := by decide +kernel
theorem dL_law_851 : decode cL_law 851 = .ok (.ireturn, 1) := by decide +kernel
theorem dL_law_852 : decode cL_law 852 = .ok (.aload_n 1, 1) := by decide +kernel
theorem dL_law_853 : decode cL_law 853 = .ok (.aload_n 0, 1) := by decide +kernel
theorem dL_law_854 : decode cL_law 854 = .ok (.iload_n 3, 1) := by decide +kernel
theorem dL_law_855 : decode cL_law 855 = .ok (.iconst 1, 1) := by decide +kernel
theorem dL_law_856 : decode cL_law 856 = .ok (.iadd, 1) := by decide +kernel
theorem dL_law_857 : decode cL_law 857 = .ok (.iaload, 1) := by decide +kernel
theorem dL_law_858 : decode cL_law 858 = .ok (.aload_n 0, 1) := by decide +kernel
theorem dL_law_859 : decode cL_law 859 = .ok (.iload_n 3, 1) := by decide +kernel
theorem dL_law_860 : decode cL_law 860 = .ok (.iconst 2, 1) := by decide +kernel
theorem dL_law_861 : decode cL_law 861 = .ok (.iadd, 1) := by decide +kernel
theorem dL_law_862 : decode cL_law 862 = .ok (.iaload, 1) := by decide +kernel
theorem dL_law_863 : decode cL_law 863 = .ok (.invokevirtual 126, 3) := by decide +kernel
theorem dL_law_866 : decode cL_law 866 = .ok (.aload_n 2, 1) := by decide +kernel
theorem dL_law_867 : decode cL_law 867 = .ok (.aload_n 0, 1) := by decide +kernel
theorem dL_law_868 : decode cL_law 868 = .ok (.iload_n 3, 1) := by decide +kernel
theorem dL_law_869 : decode cL_law 869 = .ok (.iconst 1, 1) := by decide +kernel
theorem dL_law_870 : decode cL_law 870 = .ok (.iadd, 1) := by decide +kernel
theorem dL_law_871 : decode cL_law 871 = .ok (.iaload, 1) := by decide +kernel
theorem dL_law_872 : decode cL_law 872 = .ok (.aload_n 0, 1) := by decide +kernel
theorem dL_law_873 : decode cL_law 873 = .ok (.iload_n 3, 1) := by decide +kernel
theorem dL_law_874 : decode cL_law 874 = .ok (.iconst 2, 1) := by decide +kernel
theorem dL_law_875 : decode cL_law 875 = .ok (.iadd, 1) := by decide +kernel
theorem dL_law_876 : decode cL_law 876 = .ok (.iaload, 1) := by decide +kernel
theorem dL_law_877 : decode cL_law 877 = .ok (.invokevirtual 129, 3) := by decide +kernel
theorem dL_law_880 : decode cL_law 880 = .ok (.if_icmp .eq 88, 3) := by decide +kernel
theorem dL_law_883 : decode cL_law 883 = .ok (.iconst 0, 1) := by decide +kernel
theorem dL_law_884 : decode cL_law 884 = .ok (.ireturn, 1) := by decide +kernel
theorem dL_law_885 : decode cL_law 885 = .ok (.aload_n 1, 1) := by decide +kernel
theorem dL_law_886 : decode cL_law 886 = .ok (.aload_n 0, 1) := by decide +kernel
theorem dL_law_887 : decode cL_law 887 = .ok (.iload_n 3, 1) := by decide +kernel
theorem dL_law_888 : decode cL_law 888 = .ok (.iconst 1, 1) := by decide +kernel
theorem dL_law_889 : decode cL_law 889 = .ok (.iadd, 1) := by decide +kernel
theorem dL_law_890 : decode cL_law 890 = .ok (.iaload, 1) := by decide +kernel
theorem dL_law_891 : decode cL_law 891 = .ok (.invokevirtual 130, 3) := by decide +kernel
theorem dL_law_894 : decode cL_law 894 = .ok (.aload_n 2, 1) := by decide +kernel
theorem dL_law_895 : decode cL_law 895 = .ok (.aload_n 0, 1) := by decide +kernel
theorem dL_law_896 : decode cL_law 896 = .ok (.iload_n 3, 1) := by decide +kernel
theorem dL_law_897 : decode cL_law 897 = .ok (.iconst 1, 1) := by decide +kernel
theorem dL_law_898 : decode cL_law 898 = .ok (.iadd, 1) := by decide +kernel
theorem dL_law_899 : decode cL_law 899 = .ok (.iaload, 1) := by decide +kernel
theorem dL_law_900 : decode cL_law 900 = .ok (.invokevirtual 133, 3) := by decide +kernel
theorem dL_law_903 : decode cL_law 903 = .ok (.if_icmp .eq 65, 3) := by decide +kernel
theorem dL_law_906 : decode cL_law 906 = .ok (.iconst 0, 1) := by decide +kernel
theorem dL_law_907 : decode cL_law 907 = .ok (.ireturn, 1) := by decide +kernel
theorem dL_law_908 : decode cL_law 908 = .ok (.aload_n 1, 1) := by decide +kernel
theorem dL_law_909 : decode cL_law 909 = .ok (.aload_n 0, 1) := by decide +kernel
theorem dL_law_910 : decode cL_law 910 = .ok (.iload_n 3, 1) := by decide +kernel
theorem dL_law_911 : decode cL_law 911 = .ok (.iconst 1, 1) := by decide +kernel
theorem dL_law_912 : decode cL_law 912 = .ok (.iadd, 1) := by decide +kernel
theorem dL_law_913 : decode cL_law 913 = .ok (.iaload, 1) := by decide +kernel
theorem dL_law_914 : decode cL_law 914 = .ok (.invokevirtual 134, 3) := by decide +kernel
theorem dL_law_917 : decode cL_law 917 = .ok (.aload_n 2, 1) := by decide +kernel
theorem dL_law_918 : decode cL_law 918 = .ok (.aload_n 0, 1) := by decide +kernel
theorem dL_law_919 : decode cL_law 919 = .ok (.iload_n 3, 1) := by decide +kernel
theorem dL_law_920 : decode cL_law 920 = .ok (.iconst 1, 1) := by decide +kernel
theorem dL_law_921 : decode cL_law 921 = .ok (.iadd, 1) := by decide +kernel
theorem dL_law_922 : decode cL_law 922 = .ok (.iaload, 1) := by decide +kernel
theorem dL_law_923 : decode cL_law 923 = .ok (.invokevirtual 137, 3) := by decide +kernel
theorem dL_law_926 : decode cL_law 926 = .ok (.if_icmp .eq 42, 3) := by decide +kernel
theorem dL_law_929 : decode cL_law 929 = .ok (.iconst 0, 1) := by decide +kernel
theorem dL_law_930 : decode cL_law 930 = .ok (.ireturn, 1) := by decide +kernel
theorem dL_law_931 : decode cL_law 931 = .ok (.aload_n 1, 1) := by decide +kernel
theorem dL_law_932 : decode cL_law 932 = .ok (.aload_n 0, 1) := by decide +kernel
theorem dL_law_933 : decode cL_law 933 = .ok (.iload_n 3, 1) := by decide +kernel
theorem dL_law_934 : decode cL_law 934 = .ok (.iconst 1, 1) := by decide +kernel
theorem dL_law_935 : decode cL_law 935 = .ok (.iadd, 1) := by decide +kernel
theorem dL_law_936 : decode cL_law 936 = .ok (.iaload, 1) := by decide +kernel
theorem dL_law_937 : decode cL_law 937 = .ok (.invokevirtual 138, 3) := by decide +kernel
theorem dL_law_940 : decode cL_law 940 = .ok (.aload_n 2, 1) := by decide +kernel
theorem dL_law_941 : decode cL_law 941 = .ok (.aload_n 0, 1) := by decide +kernel
theorem dL_law_942 : decode cL_law 942 = .ok (.iload_n 3, 1) := by decide +kernel
theorem dL_law_943 : decode cL_law 943 = .ok (.iconst 1, 1) := by decide +kernel
theorem dL_law_944 : decode cL_law 944 = .ok (.iadd, 1) := by decide +kernel
theorem dL_law_945 : decode cL_law 945 = .ok (.iaload, 1) := by decide +kernel
theorem dL_law_946 : decode cL_law 946 = .ok (.invokevirtual 141, 3) := by decide +kernel
theorem dL_law_949 : decode cL_law 949 = .ok (.if_icmp .eq 19, 3) := by decide +kernel
theorem dL_law_952 : decode cL_law 952 = .ok (.iconst 0, 1) := by decide +kernel
theorem dL_law_953 : decode cL_law 953 = .ok (.ireturn, 1) := by decide +kernel
theorem dL_law_954 : decode cL_law 954 = .ok (.aload_n 1, 1) := by decide +kernel
theorem dL_law_955 : decode cL_law 955 = .ok (.invokevirtual 142, 3) := by decide +kernel
theorem dL_law_958 : decode cL_law 958 = .ok (.aload_n 2, 1) := by decide +kernel
theorem dL_law_959 : decode cL_law 959 = .ok (.invokevirtual 146, 3) := by decide +kernel
theorem dL_law_962 : decode cL_law 962 = .ok (.lcmp, 1) := by decide +kernel
theorem dL_law_963 : decode cL_law 963 = .ok (.ifCond .eq 5, 3) := by decide +kernel
theorem dL_law_966 : decode cL_law 966 = .ok (.iconst 0, 1) := by decide +kernel
theorem dL_law_967 : decode cL_law 967 = .ok (.ireturn, 1) := by decide +kernel
theorem dL_law_968 : decode cL_law 968 = .ok (.iinc 3 5, 3) := by decide +kernel
theorem dL_law_971 : decode cL_law 971 = .ok (.goto (-953), 3) := by decide +kernel
theorem dL_law_974 : decode cL_law 974 = .ok (.iconst 1, 1) := by decide +kernel
theorem dL_law_975 : decode cL_law 975 = .ok (.ireturn, 1) := by decide +kernel
end
section
/-- an Int as the machine's int, and back: what a comparison sees -/
def wi (z : Int) : Int := (Int32.ofInt z).toInt
def wl (z : Int) : Int := (Int64.ofInt z).toInt
abbrev vI (z : Int) : Value := .int (Int32.ofInt z)
abbrev vL (z : Int) : Value := .long (Int64.ofInt z)
theorem wi_b (z : Int) : wi z = z.bmod 4294967296 := by unfold wi; exact Int32.toInt_ofInt
theorem wl_b (z : Int) : wl z = z.bmod 18446744073709551616 := by unfold wl; exact Int64.toInt_ofInt
theorem wi_id {z : Int} (h : -2147483648 ≤ z) (h2 : z ≤ 2147483647) : wi z = z := by
  rw [wi_b]; rw [Int.bmod_def]; omega
theorem wl_id {z : Int} (h : -9223372036854775808 ≤ z) (h2 : z ≤ 9223372036854775807) : wl z = z := by
  rw [wl_b]; rw [Int.bmod_def]; omega
theorem wi_r (z : Int) : -2147483648 ≤ wi z ∧ wi z ≤ 2147483647 := by
  rw [wi_b, Int.bmod_def]; omega
theorem wl_r (z : Int) : -9223372036854775808 ≤ wl z ∧ wl z ≤ 9223372036854775807 := by
  rw [wl_b, Int.bmod_def]; omega
theorem wi_wi (z : Int) : wi (wi z) = wi z := wi_id (wi_r z).1 (wi_r z).2
theorem wl_wl (z : Int) : wl (wl z) = wl z := wl_id (wl_r z).1 (wl_r z).2
theorem oi_wi (z : Int) : Int32.ofInt (wi z) = Int32.ofInt z := Int32.ofInt_toInt _
theorem ol_wl (z : Int) : Int64.ofInt (wl z) = Int64.ofInt z := Int64.ofInt_toInt _
theorem oi_ti (x : Int32) : Int32.ofInt x.toInt = x := Int32.ofInt_toInt x
theorem ol_ti (x : Int64) : Int64.ofInt x.toInt = x := Int64.ofInt_toInt x
theorem wi_ti (x : Int32) : wi x.toInt = x.toInt := by unfold wi; rw [oi_ti]
theorem oi_lt (a b : Int) : Int32.ofInt a < Int32.ofInt b ↔ wi a < wi b := Int32.lt_iff_toInt_lt
theorem oi_le (a b : Int) : Int32.ofInt a ≤ Int32.ofInt b ↔ wi a ≤ wi b := Int32.le_iff_toInt_le
theorem oi_eq (a b : Int) : Int32.ofInt a = Int32.ofInt b ↔ wi a = wi b := Int32.toInt_inj.symm
theorem ol_lt (a b : Int) : Int64.ofInt a < Int64.ofInt b ↔ wl a < wl b := Int64.lt_iff_toInt_lt
theorem ol_le (a b : Int) : Int64.ofInt a ≤ Int64.ofInt b ↔ wl a ≤ wl b := Int64.le_iff_toInt_le
theorem ol_eq (a b : Int) : Int64.ofInt a = Int64.ofInt b ↔ wl a = wl b := Int64.toInt_inj.symm
theorem wi_0 : wi 0 = 0 := by decide
theorem wl_0 : wl 0 = 0 := by decide
theorem oi_0 : Int32.ofInt 0 = 0 := by decide
theorem oi_cl (z : Int) : (Int32.ofInt z).toNatClampNeg = (wi z).toNat := rfl
/-- the operations that aren't plain sums -/
def q_and (a b : Int) : Int := (Int32.ofInt a &&& Int32.ofInt b).toInt
def q_or (a b : Int) : Int := (Int32.ofInt a ||| Int32.ofInt b).toInt
def q_xor (a b : Int) : Int := (Int32.ofInt a ^^^ Int32.ofInt b).toInt
def q_shl (a b : Int) : Int := (Int32.ofInt a <<< (Int32.ofInt b &&& 31)).toInt
def q_shr (a b : Int) : Int := (Int32.ofInt a >>> (Int32.ofInt b &&& 31)).toInt
def q_ushr (a b : Int) : Int := ((Int32.ofInt a).toUInt32 >>> ((Int32.ofInt b).toUInt32 &&& Int32.toUInt32 31)).toInt32.toInt
def q_rem (a b : Int) : Int := (Int32.ofInt a - Int32.ofInt a / Int32.ofInt b * Int32.ofInt b).toInt
def q_b (a : Int) : Int := ((Int32.ofInt a).toInt8.toInt32).toInt
def q_z (a : Int) : Int := (vp_nar .boolean (Int32.ofInt a)).toInt
def q_land (a b : Int) : Int := (Int64.ofInt a &&& Int64.ofInt b).toInt
def q_lor (a b : Int) : Int := (Int64.ofInt a ||| Int64.ofInt b).toInt
def q_lshl (a b : Int) : Int := (Int64.ofInt a <<< ((Int32.ofInt b).toInt64 &&& 63)).toInt
def q_lshr (a b : Int) : Int := (Int64.ofInt a >>> ((Int32.ofInt b).toInt64 &&& 63)).toInt
def q_lushr (a b : Int) : Int := ((Int64.ofInt a).toUInt64 >>> ((Int32.ofInt b).toInt64.toUInt64 &&& Int64.toUInt64 63)).toInt64.toInt
def q_ldiv (a b : Int) : Int := (Int64.ofInt a / Int64.ofInt b).toInt
def q_lrem (a b : Int) : Int := (Int64.ofInt a - Int64.ofInt a / Int64.ofInt b * Int64.ofInt b).toInt
def q_lcmp (a b : Int) : Int := if wl b < wl a then 1 else if wl a = wl b then 0 else -1
theorem q_lcmp_e (a b : Int) : lg_cmp (Int64.ofInt a) (Int64.ofInt b) = Int32.ofInt (q_lcmp a b) := by
  unfold lg_cmp q_lcmp
  by_cases h1 : wl b < wl a
  · have h2 : Int64.ofInt a > Int64.ofInt b := (ol_lt b a).mpr h1
    rw [if_pos h1, if_pos h2]; rfl
  · have h2 : ¬ Int64.ofInt a > Int64.ofInt b := fun z => h1 ((ol_lt b a).mp z)
    rw [if_neg h1, if_neg h2]
    by_cases h3 : wl a = wl b
    · rw [if_pos h3, if_pos ((ol_eq a b).mpr h3)]; rfl
    · rw [if_neg h3, if_neg (fun z => h3 ((ol_eq a b).mp z))]; rfl
theorem oi_i2l (a : Int) : (Int32.ofInt a).toInt64 = Int64.ofInt (wi a) := by
  apply Int64.toInt_inj.mp
  rw [Int32.toInt_toInt64]
  show wi a = wl (wi a)
  have := wi_r a
  exact (wl_id (by omega) (by omega)).symm
theorem ol_l2i (a : Int) : (Int64.ofInt a).toInt32 = Int32.ofInt a := by
  first
    | exact Int64.toInt32_ofInt
    | simp
    | (apply Int32.toInt_inj.mp; rw [Int64.toInt_toInt32]; show (wl a).bmod _ = wi a; rw [wl_b, wi_b]; simp [Int.bmod_def]; omega)
end
section
/-- a cell's shape: an object (number of its class, its fields: an int or long to be filled, or a reference), or an array (type, length, its references if it holds some) -/
abbrev sE : Type := (Nat × List Value) ⊕ (FieldType × Nat × (Nat → Option Nat))
/-- what the cells hold: cell, place -/
abbrev sM : Type := Nat → Nat → Int
abbrev sS : Type := List sE × sM
/-- launch, the first address, the classes, the arrays' classes, the places of the string constants -/
abbrev sG : Type := Launch × Nat × va_G × (FieldType → ClassId) × (Nat → Nat) × (Nat → Nat)
abbrev gB (G : sG) : Nat := G.2.1
abbrev gD (G : sG) : va_G := G.2.2.1
abbrev gA (G : sG) : FieldType → ClassId := G.2.2.2.1
abbrev gK (G : sG) : Nat → Nat := G.2.2.2.2.1
abbrev gV (G : sG) : Nat → Nat := G.2.2.2.2.2
def fillV (b : Nat) (t : Value) (z : Int) : Value := match t with
  | .int _ => .int (Int32.ofInt z)
  | .long _ => .long (Int64.ofInt z)
  | .ref a => .ref (b + a)
  | v => v
def fillE (b : Nat) (dA : FieldType → ClassId) (e : sE) (f : Nat → Int) : va_E := match e with
  | .inl o => .inr (o.1, o.2.mapIdx (fun j t => fillV b t (f j)))
  | .inr (.long, x) => .inl (dA .long, (x.1, .inr (.inl (fun j => Int64.ofInt (f j)))))
  | .inr (.array t, x) => .inl (dA (.array t), (x.1, .inr (.inr (.inr (.inr (fun j => (x.2 j).map (fun a => b + a)))))))
  | .inr (t, x) => .inl (dA t, (x.1, .inl (fun j => Int32.ofInt (f j))))
def wsOf (b : Nat) (dA : FieldType → ClassId) (S : sS) : va_W := S.1.mapIdx (fun k e => (b + k, fillE b dA e (S.2 k)))
theorem ws_at (b : Nat) (dA : FieldType → ClassId) (S : sS) (k : Nat) : (wsOf b dA S)[k]? = (S.1[k]?).map (fun e => (b + k, fillE b dA e (S.2 k))) := by
  unfold wsOf
  rw [List.getElem?_mapIdx]
theorem ws_some {b : Nat} {dA : FieldType → ClassId} {S : sS} {k : Nat} {e : sE} (h : S.1[k]? = some e) : (wsOf b dA S)[k]? = some (b + k, fillE b dA e (S.2 k)) := by
  rw [ws_at, h]; rfl
theorem ws_len (b : Nat) (dA : FieldType → ClassId) (S : sS) : (wsOf b dA S).length = S.1.length := by
  unfold wsOf; simp
def sA (G : sG) : Nat → Prop := fun q => gB G ≤ q
theorem ws_D (G : sG) (S : sS) : va_D (sA G) (wsOf (gB G) (gA G) S) := by
  have key : ∀ (k : Nat) (q : Nat × va_E), (wsOf (gB G) (gA G) S)[k]? = some q → q.1 = gB G + k := by
    intro k q h
    rw [ws_at] at h
    cases hk : S.1[k]? with
    | none => rw [hk] at h; cases h
    | some e => rw [hk] at h; cases h; rfl
  refine ⟨fun i j p q hi hj hpq => ?_, fun k q hk => ?_⟩
  · have := key i p hi; have := key j q hj; omega
  · have := key k q hk
    show gB G ≤ q.1
    omega
/-- one place anew -/
def sU (σ : sM) (k j : Nat) (v : Int) : sM := fun k' j' => if k' = k ∧ j' = j then v else σ k' j'
/-- a whole cell anew -/
def sUc (σ : sM) (k : Nat) (f : Nat → Int) : sM := fun k' j' => if k' = k then f j' else σ k' j'
theorem sU_ne {σ : sM} {k j k' : Nat} {v : Int} (h : k' ≠ k) : sU σ k j v k' = σ k' := by
  funext j'; unfold sU; rw [if_neg (fun z => h z.1)]
theorem sUc_ne {σ : sM} {k k' : Nat} {f : Nat → Int} (h : k' ≠ k) : sUc σ k f k' = σ k' := by
  funext j'; unfold sUc; rw [if_neg h]
theorem ws_set {b : Nat} {dA : FieldType → ClassId} {Sh : List sE} {σ σ' : sM} {k : Nat} {e : sE} (h : Sh[k]? = some e) (ho : ∀ k', k' ≠ k → σ' k' = σ k') : (wsOf b dA (Sh, σ)).set k (b + k, fillE b dA e (σ' k)) = wsOf b dA (Sh, σ') := by
  apply List.ext_getElem?
  intro i
  by_cases hi : i = k
  · subst hi
    have hl : i < (wsOf b dA (Sh, σ)).length := by rw [ws_len]; exact (List.getElem?_eq_some_iff.mp h).1
    rw [List.getElem?_set_self hl, ws_some (S := (Sh, σ')) h]
  · rw [List.getElem?_set_ne (Ne.symm hi), ws_at, ws_at]
    cases hk : Sh[i]? with
    | none => rfl
    | some e' => show some (b + i, fillE b dA e' (σ i)) = some (b + i, fillE b dA e' (σ' i)); rw [ho i hi]
theorem fill_obj_set {b : Nat} {dA : FieldType → ClassId} {ci o j : Nat} {tm : List Value} {σ : sM} {z : Int} {t v : Value} (ht : tm[j]? = some t) (hv : fillV b t z = v) : fillE b dA (.inl (ci, tm)) (sU σ o j z o) = .inr (ci, (tm.mapIdx (fun j t => fillV b t (σ o j))).set j v) := by
  show Sum.inr (ci, tm.mapIdx (fun j' t => fillV b t (sU σ o j z o j'))) = _
  congr 2
  apply List.ext_getElem?
  intro i
  have hl : j < tm.length := (List.getElem?_eq_some_iff.mp ht).1
  by_cases hi : i = j
  · subst hi
    rw [List.getElem?_set_self (by simpa using hl), List.getElem?_mapIdx, ht]
    show some (fillV b t (sU σ o i z o i)) = some v
    unfold sU; rw [if_pos ⟨rfl, rfl⟩, hv]
  · rw [List.getElem?_set_ne (Ne.symm hi), List.getElem?_mapIdx, List.getElem?_mapIdx]
    cases tm[i]? with
    | none => rfl
    | some t' => show some (fillV b t' (sU σ o j z o i)) = some (fillV b t' (σ o i)); unfold sU; rw [if_neg (fun q => hi q.2)]
theorem upd_sU (σ : sM) (a i : Nat) (z : Int) : upd (fun j => Int32.ofInt (σ a j)) i (Int32.ofInt z) = fun j => Int32.ofInt (sU σ a i z a j) := by
  funext j; unfold upd sU
  by_cases h : j = i
  · rw [if_pos h, if_pos ⟨rfl, h⟩]
  · rw [if_neg h, if_neg (fun q => h q.2)]
theorem updL_sU (σ : sM) (a i : Nat) (z : Int) : vp_updL (fun j => Int64.ofInt (σ a j)) i (Int64.ofInt z) = fun j => Int64.ofInt (sU σ a i z a j) := by
  funext j; unfold vp_updL sU
  by_cases h : j = i
  · rw [if_pos h, if_pos ⟨rfl, h⟩]
  · rw [if_neg h, if_neg (fun q => h q.2)]
theorem q_b_n (z : Int) : narrow .byte (.int (Int32.ofInt z)) = Value.int (Int32.ofInt (q_b z)) := by unfold q_b; rw [oi_ti]; rfl
theorem q_z_n (z : Int) : narrow .boolean (.int (Int32.ofInt z)) = Value.int (Int32.ofInt (q_z z)) := by unfold q_z; rw [oi_ti]; rfl
/-- the words that every method takes with it -/
def lw_good : List Cond := lw_tbl.filter goodWord
def isNest : Cond → Bool
  | .fieldLinkNest .. => true
  | .methodLinkNest .. => true
  | _ => false
def lw_nest : List Cond := lw_tbl.filter isNest
theorem kw_in {w : Cond} (i : Nat) (h : lw_tbl[i]? = some w) (g : goodWord w = true) : w ∈ lw_good := List.mem_filter.mpr ⟨List.mem_of_getElem? h, g⟩
theorem kn_in {w : Cond} (i : Nat) (h : lw_tbl[i]? = some w) (g : isNest w = true) : w ∈ lw_nest := List.mem_filter.mpr ⟨List.mem_of_getElem? h, g⟩
def tysL (G : sG) : List (ClassId × FieldType) := [(gA G .int, .int), (gA G .byte, .byte), (gA G .boolean, .boolean), (gA G .long, .long), (gA G (.array .int), .array .int)]
/-- the string constants: own class and entry, text, length, bytes -/
def strK : List (Nat × String × Nat × List Int32) := []
def strL : List Nat := strK.map (fun q => q.2.2.1)
def strB : List (List Int32) := strK.map (fun q => q.2.2.2)
def sX (G : sG) (U : State) : Prop := va_K (gD G) vwCl (tysL G) U ∧ (∀ w ∈ lw_nest, va_Nw w U) ∧ ∀ (i : Nat) (q : Nat × String × Nat × List Int32), strK[i]? = some q → vk_R RX4 q.1 q.2.1 (gK G i) U
def sV (G : sG) (U : State) : Prop := vk_S 9 strL strB (gK G) (gV G) (sA G) U U.heap
def sH (G : sG) (S : sS) (H : Heap) : Prop := va_P (gD G) vwCl (wsOf (gB G) (gA G) S) H ∧ H.size = gB G + S.1.length
def sHU (G : sG) (S : sS) (U : State) : Prop := sX G U ∧ sV G U ∧ sH G S U.heap
theorem sX.warm {G : sG} {s U : State} (hW : s.WarmedH U.vm) (h : sX G s) : sX G U := by
  refine ⟨va_K.moved hW.alike h.1, fun w hw => ?_, fun i q hq => vk_R.warm hW (h.2.2 i q hq)⟩
  have h1 := h.2.1 w hw
  have h2 := (List.mem_filter.mp hw).2
  cases w <;> first | exact absurd (show (false : Bool) = true from h2) (by decide) | exact va_Nw.warmF hW h1 | exact va_Nw.warmM hW h1
theorem sX.same {G : sG} {s U : State} (hv : U.vm = s.vm) (h : sX G s) : sX G U := by
  refine ⟨va_K.moved (by rw [hv]; exact Vm.Alike.refl _) h.1, fun w hw => ?_, fun i q hq => vk_R.same hv (h.2.2 i q hq)⟩
  have h1 := h.2.1 w hw
  have h2 := (List.mem_filter.mp hw).2
  cases w <;> first | exact absurd (show (false : Bool) = true from h2) (by decide) | exact va_Nw.same rfl hv.symm h1
/-- the answer as the machine has it -/
def sRV (G : sG) (ret : Option FieldType) (r : Int) : Option Value := match ret with
  | none => none
  | some .long => some (.long (Int64.ofInt r))
  | some (.object _) => some (.ref (gB G + r.toNat))
  | some _ => some (.int (Int32.ofInt r))
def sR (d mc ms : Nat) : Room := { frames := d, cells := mc, slots := ms, locals := 80 * d }
def sQ (G : sG) (ret : Option FieldType) (fin : Int × sS) : Array Value → State → Outcome → State → Prop := fun _ st o t => (o = .returned (sRV G ret fin.1) ∧ sH G fin.2 t.heap) ∧ va_F (sA G) st t
/-- the contract of a method: from these arguments and this state it returns fin -/
def aM (G : sG) (y : MethodName) (cc : ByteArray) (nL : Nat) (ret : Option FieldType) (d mc ms : Nat) (av : List Value) (S : sS) (fin : Int × sS) : Prop :=
  Met G.1 y (.code y cc nL ret :: lw_good) (sR d mc ms) (va_Pc av (sHU G S)) (sQ G ret fin) mc ms (sA G)
def aC (G : sG) (cc : ByteArray) (own mn : String) (nL : Nat) (ret : Option FieldType) (Xp : State → Array Value → Prop) (p : Program) (s : State) (m : MethodId) (args : Array Value) (meth : Method) (c : Code) : Prop :=
  p.tables.exec = Jvm.exec ∧ c.code = cc ∧ meth.sig.returnType = ret ∧ c.maxLocals = nL ∧ s.vm.findClass own = some m.cls ∧ (∀ w ∈ lw_good, w.before args s = true) ∧ meth.locks = false ∧ meth.name = mn ∧ sX G s ∧ sV G s ∧ gB G ≤ s.heap.size ∧ Xp s args
/-- from here the method comes to its end, with fin -/
def aW (G : sG) (cc : ByteArray) (own mn : String) (nL : Nat) (ret : Option FieldType) (R : Room) (Q : List Frame → Array Value → State → State → Prop) (Xp : State → Array Value → Prop) (k n : Nat) (S : sS) (L : List (Nat × Value)) (pc : Nat) (st : List Value) : Prop :=
  ∀ (p : Program) (e : Env) (s : State) (m : MethodId) (args : Array Value) (below : List Frame) (meth : Method) (c : Code), aC G cc own mn nL ret Xp p s m args meth c →
    ∀ (H : Heap) (locs : List Loc) (ls : Array Slot), sH G S H → va_S (sA G) s.heap H locs → lv_has ls nL L →
      W p G.1 e R s m args below meth c H locs k n (Q below args s) (F0 m pc ls st)
def aQ (G : sG) (ret : Option FieldType) (mc ms : Nat) (fin : Int × sS) : List Frame → Array Value → State → State → Prop := fun below args s => MQ below (sQ G ret fin) args s mc ms (sA G)
def aX : State → Array Value → Prop := fun _ _ => True
theorem aM_of {G : sG} {y : MethodName} {cc : ByteArray} {nL : Nat} {ret : Option FieldType} {d mc ms : Nat} {av : List Value} {S : sS} {fin : Int × sS} (hp : plainName y.cls = true) (hn : (lg_sl av).length ≤ nL)
    (h : aW G cc y.cls y.name nL ret (sR d mc ms) (aQ G ret mc ms fin) aX 0 0 S (lv_args 0 av) 0 []) : aM G y cc nL ret d mc ms av S fin := by
  refine Met.ofW (cc := cc) (maxL := nL) (ret := ret) hp rfl ?_
  intro p e s m args below meth c s₁ B hml hv
  obtain ⟨rfl, hX, hV, hH⟩ := hv
  have hts := atoms_spec (ws := .code y cc nL ret :: lw_good) B.pre
  rw [lg_entry_eq]
  exact h p e s m _ below meth c ⟨B.exec, B.bytes, B.returns, hml, findClass_of_methodNamed B.named, fun w hw => hts w (List.mem_cons_of_mem _ hw), B.notSynchronized, (name_of_methodNamed B.named B.method).1, hX, hV, by rw [hH.2]; exact Nat.le_add_right _ _, trivial⟩ s.heap [] _ hH va_S.rf (lv_entry av hn)
/-- the branches of the told function -/
theorem a_if {α : Type} {P : Prop} [Decidable P] {T F : Option α} {o : α} {X : Prop} (h : (if P then T else F) = some o) (a : P → T = some o → X) (b : ¬ P → F = some o → X) : X := by
  by_cases c : P
  · rw [if_pos c] at h; exact a c h
  · rw [if_neg c] at h; exact b c h
theorem a_gd {α : Type} {P : Prop} [Decidable P] {T : Option α} {o : α} {X : Prop} (h : (if P then T else none) = some o) (a : P → T = some o → X) : X := by
  by_cases c : P
  · rw [if_pos c] at h; exact a c h
  · rw [if_neg c] at h; cases h
/-- a call, a join, a loop in the told functions -/
def bn {α β : Type} (x : Option (Int × β)) (k : Int → β → Option α) : Option α := match x with
  | none => none
  | some q => k q.1 q.2
theorem bn_e {α β : Type} {x : Option (Int × β)} {k : Int → β → Option α} {r : Int} {s : β} (h : x = some (r, s)) : bn x k = k r s := by rw [h]; rfl
theorem bn_s {α β : Type} {x : Option (Int × β)} {k : Int → β → Option α} {o : α} {X : Prop} (h : bn x k = some o) (a : ∀ r s, x = some (r, s) → k r s = some o → X) : X := by
  cases x with
  | none => cases h
  | some q => exact a q.1 q.2 rfl h
def jn {α β : Type} (J : β → Option α) (B : (β → Option α) → Option α) : Option α := B J
theorem jn_s {α β : Type} {J : β → Option α} {B : (β → Option α) → Option α} {o : α} {X : Prop} (P : β → Prop) (h : jn J B = some o) (a : ∀ x, J x = some o → P x) (b : ∀ K : β → Option α, (∀ x, K x = some o → P x) → B K = some o → X) : X := b J a h
def lp {α β : Type} (B : (β → Option α) → β → Option α) : Nat → β → Option α
  | 0, _ => none
  | n + 1, x => B (lp B n) x
theorem lp_s {α β : Type} {B : (β → Option α) → β → Option α} {n : Nat} {x : β} {o : α} (P : β → Prop) (h : lp B n x = some o) (a : ∀ K : β → Option α, (∀ x, K x = some o → P x) → ∀ x, B K x = some o → P x) : P x := by
  induction n generalizing x with
  | zero => cases h
  | succ n ih => exact a (lp B n) (fun y hy => ih hy) x h
/-- what the rules ask of a class -/
def clK (ci : Nat) (C : String) (T : u_T) (N : Nat) (ty : Nat → FieldType) : Prop := vwCl[ci]? = some (C, T, N) ∧ (∀ w ∈ u_ws C T N, w ∈ lw_good) ∧ (∀ k, k < N → parseFieldDescriptor (T k).2.2.1 = some (ty k)) ∧ (∀ a, a < N → ∀ b, b < N → a ≠ b → (T a).2.1 ≠ (T b).2.1)
section AWR
variable {G : sG} {cc : ByteArray} {own mn : String} {nL : Nat} {ret : Option FieldType} {R : Room} {Q : List Frame → Array Value → State → State → Prop} {Xp : State → Array Value → Prop} {k n : Nat} {S : sS} {Sh : List sE} {σ : sM} {L : List (Nat × Value)} {pc : Nat} {st : List Value} {α : Type} {T F : Option α} {o : α}
theorem a_iconst {v : Int} (hd : decode cc pc = .ok (.iconst v, 1)) (kk : aW G cc own mn nL ret R Q Xp k n S L (pc + 1) (vI v :: st)) : aW G cc own mn nL ret R Q Xp k n S L pc st := by
  intro p e s m args below meth c C H locs ls hH hS hl
  exact lv_iconst C.1 C.2.1 hd rfl (kk p e s m args below meth c C H locs ls hH hS hl)
theorem a_bipush {v : Int} (hd : decode cc pc = .ok (.bipush v, 2)) (hv : (Int8.ofInt v).toInt32 = Int32.ofInt v) (kk : aW G cc own mn nL ret R Q Xp k n S L (pc + 2) (vI v :: st)) : aW G cc own mn nL ret R Q Xp k n S L pc st := by
  intro p e s m args below meth c C H locs ls hH hS hl
  exact lv_bipush C.1 C.2.1 hd hv (kk p e s m args below meth c C H locs ls hH hS hl)
theorem a_sipush {v : Int} (hd : decode cc pc = .ok (.sipush v, 3)) (hv : (Int16.ofInt v).toInt32 = Int32.ofInt v) (kk : aW G cc own mn nL ret R Q Xp k n S L (pc + 3) (vI v :: st)) : aW G cc own mn nL ret R Q Xp k n S L pc st := by
  intro p e s m args below meth c C H locs ls hH hS hl
  exact lv_sipush C.1 C.2.1 hd hv (kk p e s m args below meth c C H locs ls hH hS hl)
theorem a_lconst {v : Fin 2} {z : Int} (hd : decode cc pc = .ok (.lconst v, 1)) (hv : Int64.ofNat (v : Nat) = Int64.ofInt z) (kk : aW G cc own mn nL ret R Q Xp k n S L (pc + 1) (vL z :: st)) : aW G cc own mn nL ret R Q Xp k n S L pc st := by
  intro p e s m args below meth c C H locs ls hH hS hl
  exact lv_lconst C.1 C.2.1 hd hv (kk p e s m args below meth c C H locs ls hH hS hl)
theorem a_ldc {i : Nat} {v : Int32} {z : Int} (hd : decode cc pc = .ok (.ldc i, 2)) (hw : Cond.constant own i v ∈ lw_good) (hv : v = Int32.ofInt z) (kk : aW G cc own mn nL ret R Q Xp k n S L (pc + 2) (vI z :: st)) : aW G cc own mn nL ret R Q Xp k n S L pc st := by
  intro p e s m args below meth c C H locs ls hH hS hl
  exact lv_ldc C.1 C.2.1 C.2.2.2.2.1 (C.2.2.2.2.2.1 _ hw) hd (by rw [hv]; exact (kk p e s m args below meth c C H locs ls hH hS hl))
theorem a_ldc2 {i : Nat} {v : Int64} {z : Int} (hd : decode cc pc = .ok (.ldc2_w i, 3)) (hw : Cond.constantLong own i v ∈ lw_good) (hv : v = Int64.ofInt z) (kk : aW G cc own mn nL ret R Q Xp k n S L (pc + 3) (vL z :: st)) : aW G cc own mn nL ret R Q Xp k n S L pc st := by
  intro p e s m args below meth c C H locs ls hH hS hl
  exact lv_ldc2 C.1 C.2.1 C.2.2.2.2.1 (C.2.2.2.2.2.1 _ hw) hd (by rw [hv]; exact (kk p e s m args below meth c C H locs ls hH hS hl))
theorem a_iload_n {i : Fin 4} {x : Int} (q : Nat) (hd : decode cc pc = .ok (.iload_n i, 1)) (hq : L[q]? = some ((i : Nat), vI x)) (kk : aW G cc own mn nL ret R Q Xp k n S L (pc + 1) (vI x :: st)) : aW G cc own mn nL ret R Q Xp k n S L pc st := by
  intro p e s m args below meth c C H locs ls hH hS hl
  exact lv_iload_n C.1 C.2.1 hd rfl (lv_at hl q hq) (kk p e s m args below meth c C H locs ls hH hS hl)
theorem a_iload {i : Nat} {x : Int} (q : Nat) (hd : decode cc pc = .ok (.iload i, 2)) (hq : L[q]? = some (i, vI x)) (kk : aW G cc own mn nL ret R Q Xp k n S L (pc + 2) (vI x :: st)) : aW G cc own mn nL ret R Q Xp k n S L pc st := by
  intro p e s m args below meth c C H locs ls hH hS hl
  exact lv_iload C.1 C.2.1 hd (lv_at hl q hq) (kk p e s m args below meth c C H locs ls hH hS hl)
theorem a_lload_n {i : Fin 4} {x : Int} (q : Nat) (hd : decode cc pc = .ok (.lload_n i, 1)) (hq : L[q]? = some ((i : Nat), vL x)) (kk : aW G cc own mn nL ret R Q Xp k n S L (pc + 1) (vL x :: st)) : aW G cc own mn nL ret R Q Xp k n S L pc st := by
  intro p e s m args below meth c C H locs ls hH hS hl
  exact lv_lload_n C.1 C.2.1 hd rfl (lv_at hl q hq) (kk p e s m args below meth c C H locs ls hH hS hl)
theorem a_lload {i : Nat} {x : Int} (q : Nat) (hd : decode cc pc = .ok (.lload i, 2)) (hq : L[q]? = some (i, vL x)) (kk : aW G cc own mn nL ret R Q Xp k n S L (pc + 2) (vL x :: st)) : aW G cc own mn nL ret R Q Xp k n S L pc st := by
  intro p e s m args below meth c C H locs ls hH hS hl
  exact lv_lload C.1 C.2.1 hd (lv_at hl q hq) (kk p e s m args below meth c C H locs ls hH hS hl)
theorem a_aload_n {i : Fin 4} {x : Nat} (q : Nat) (hd : decode cc pc = .ok (.aload_n i, 1)) (hq : L[q]? = some ((i : Nat), .ref x)) (kk : aW G cc own mn nL ret R Q Xp k n S L (pc + 1) (.ref x :: st)) : aW G cc own mn nL ret R Q Xp k n S L pc st := by
  intro p e s m args below meth c C H locs ls hH hS hl
  exact lv_aload_n C.1 C.2.1 hd rfl (lv_at hl q hq) (kk p e s m args below meth c C H locs ls hH hS hl)
theorem a_aload {i : Nat} {x : Nat} (q : Nat) (hd : decode cc pc = .ok (.aload i, 2)) (hq : L[q]? = some (i, .ref x)) (kk : aW G cc own mn nL ret R Q Xp k n S L (pc + 2) (.ref x :: st)) : aW G cc own mn nL ret R Q Xp k n S L pc st := by
  intro p e s m args below meth c C H locs ls hH hS hl
  exact lv_aload C.1 C.2.1 hd (lv_at hl q hq) (kk p e s m args below meth c C H locs ls hH hS hl)
theorem a_istore_n {i : Fin 4} {x : Int} {L' : List (Nat × Value)} (hd : decode cc pc = .ok (.istore_n i, 1)) (hi : (i : Nat) < nL) (hL : (((i : Nat), (vI x : Value)) :: L.filter (fun q => !(q.1 == (i : Nat)) && !(q.1 + 1 == (i : Nat) && q.2.category == 2))) = L') (kk : aW G cc own mn nL ret R Q Xp k n S L' (pc + 1) st) : aW G cc own mn nL ret R Q Xp k n S L pc (vI x :: st) := by
  intro p e s m args below meth c C H locs ls hH hS hl
  exact lv_istore_n C.1 C.2.1 hd rfl hl hi hL (fun ls' hl' => (kk p e s m args below meth c C H locs ls' hH hS hl'))
theorem a_istore {i : Nat} {x : Int} {L' : List (Nat × Value)} (hd : decode cc pc = .ok (.istore i, 2)) (hi : i < nL) (hL : ((i, (vI x : Value)) :: L.filter (fun q => !(q.1 == i) && !(q.1 + 1 == i && q.2.category == 2))) = L') (kk : aW G cc own mn nL ret R Q Xp k n S L' (pc + 2) st) : aW G cc own mn nL ret R Q Xp k n S L pc (vI x :: st) := by
  intro p e s m args below meth c C H locs ls hH hS hl
  exact lv_istore C.1 C.2.1 hd hl hi hL (fun ls' hl' => (kk p e s m args below meth c C H locs ls' hH hS hl'))
theorem a_lstore_n {i : Fin 4} {x : Int} {L' : List (Nat × Value)} (hd : decode cc pc = .ok (.lstore_n i, 1)) (hi : (i : Nat) + 1 < nL) (hL : (((i : Nat), (vL x : Value)) :: L.filter (fun q => !(q.1 == (i : Nat)) && (!(q.1 == (i : Nat) + 1) && !(q.1 + 1 == (i : Nat) && q.2.category == 2)))) = L') (kk : aW G cc own mn nL ret R Q Xp k n S L' (pc + 1) st) : aW G cc own mn nL ret R Q Xp k n S L pc (vL x :: st) := by
  intro p e s m args below meth c C H locs ls hH hS hl
  exact lv_lstore_n C.1 C.2.1 hd rfl hl hi hL (fun ls' hl' => (kk p e s m args below meth c C H locs ls' hH hS hl'))
theorem a_lstore {i : Nat} {x : Int} {L' : List (Nat × Value)} (hd : decode cc pc = .ok (.lstore i, 2)) (hi : i + 1 < nL) (hL : ((i, (vL x : Value)) :: L.filter (fun q => !(q.1 == i) && (!(q.1 == i + 1) && !(q.1 + 1 == i && q.2.category == 2)))) = L') (kk : aW G cc own mn nL ret R Q Xp k n S L' (pc + 2) st) : aW G cc own mn nL ret R Q Xp k n S L pc (vL x :: st) := by
  intro p e s m args below meth c C H locs ls hH hS hl
  exact lv_lstore C.1 C.2.1 hd hl hi hL (fun ls' hl' => (kk p e s m args below meth c C H locs ls' hH hS hl'))
theorem a_astore_n {i : Fin 4} {x : Nat} {L' : List (Nat × Value)} (hd : decode cc pc = .ok (.astore_n i, 1)) (hi : (i : Nat) < nL) (hL : (((i : Nat), (.ref x : Value)) :: L.filter (fun q => !(q.1 == (i : Nat)) && !(q.1 + 1 == (i : Nat) && q.2.category == 2))) = L') (kk : aW G cc own mn nL ret R Q Xp k n S L' (pc + 1) st) : aW G cc own mn nL ret R Q Xp k n S L pc (.ref x :: st) := by
  intro p e s m args below meth c C H locs ls hH hS hl
  exact lv_astore_n C.1 C.2.1 hd rfl hl hi hL (fun ls' hl' => (kk p e s m args below meth c C H locs ls' hH hS hl'))
theorem a_astore {i : Nat} {x : Nat} {L' : List (Nat × Value)} (hd : decode cc pc = .ok (.astore i, 2)) (hi : i < nL) (hL : ((i, (.ref x : Value)) :: L.filter (fun q => !(q.1 == i) && !(q.1 + 1 == i && q.2.category == 2))) = L') (kk : aW G cc own mn nL ret R Q Xp k n S L' (pc + 2) st) : aW G cc own mn nL ret R Q Xp k n S L pc (.ref x :: st) := by
  intro p e s m args below meth c C H locs ls hH hS hl
  exact lv_astore C.1 C.2.1 hd hl hi hL (fun ls' hl' => (kk p e s m args below meth c C H locs ls' hH hS hl'))
theorem a_iinc {i : Nat} {x v : Int} {L' : List (Nat × Value)} (q : Nat) (hd : decode cc pc = .ok (.iinc i v, 3)) (hq : L[q]? = some (i, vI x)) (hi : i < nL) (hL : ((i, (vI (x + v) : Value)) :: L.filter (fun q => !(q.1 == i) && !(q.1 + 1 == i && q.2.category == 2))) = L') (kk : aW G cc own mn nL ret R Q Xp k n S L' (pc + 3) st) : aW G cc own mn nL ret R Q Xp k n S L pc st := by
  intro p e s m args below meth c C H locs ls hH hS hl
  exact lv_iinc C.1 C.2.1 hd hl hq (v := Int32.ofInt (x + v)) (Int32.ofInt_add x v).symm hi hL (fun ls' hl' => (kk p e s m args below meth c C H locs ls' hH hS hl'))
theorem a_sub {L' : List (Nat × Value)} (ks : List Nat) (hL : lv_pick L ks = L') (kk : aW G cc own mn nL ret R Q Xp k n S L' pc st) : aW G cc own mn nL ret R Q Xp k n S L pc st := by
  intro p e s m args below meth c C H locs ls hH hS hl
  exact (kk p e s m args below meth c C H locs ls hH hS (lv_sub hl ks hL))
theorem a_iadd {x y : Int} (hd : decode cc pc = .ok (.iadd, 1)) (kk : aW G cc own mn nL ret R Q Xp k n S L (pc + 1) (vI (x + y) :: st)) : aW G cc own mn nL ret R Q Xp k n S L pc (vI y :: vI x :: st) := by
  intro p e s m args below meth c C H locs ls hH hS hl
  exact lv_iadd C.1 C.2.1 hd (by rw [← Int32.ofInt_add]; exact (kk p e s m args below meth c C H locs ls hH hS hl))
theorem a_isub {x y : Int} (hd : decode cc pc = .ok (.isub, 1)) (kk : aW G cc own mn nL ret R Q Xp k n S L (pc + 1) (vI (x - y) :: st)) : aW G cc own mn nL ret R Q Xp k n S L pc (vI y :: vI x :: st) := by
  intro p e s m args below meth c C H locs ls hH hS hl
  exact lv_isub C.1 C.2.1 hd (by rw [← Int32.ofInt_sub]; exact (kk p e s m args below meth c C H locs ls hH hS hl))
theorem a_imul {x y : Int} (hd : decode cc pc = .ok (.imul, 1)) (kk : aW G cc own mn nL ret R Q Xp k n S L (pc + 1) (vI (x * y) :: st)) : aW G cc own mn nL ret R Q Xp k n S L pc (vI y :: vI x :: st) := by
  intro p e s m args below meth c C H locs ls hH hS hl
  exact lv_imul C.1 C.2.1 hd (by rw [← Int32.ofInt_mul]; exact (kk p e s m args below meth c C H locs ls hH hS hl))
theorem a_ladd {x y : Int} (hd : decode cc pc = .ok (.ladd, 1)) (kk : aW G cc own mn nL ret R Q Xp k n S L (pc + 1) (vL (x + y) :: st)) : aW G cc own mn nL ret R Q Xp k n S L pc (vL y :: vL x :: st) := by
  intro p e s m args below meth c C H locs ls hH hS hl
  exact lv_ladd C.1 C.2.1 hd (by rw [← Int64.ofInt_add]; exact (kk p e s m args below meth c C H locs ls hH hS hl))
theorem a_lsub {x y : Int} (hd : decode cc pc = .ok (.lsub, 1)) (kk : aW G cc own mn nL ret R Q Xp k n S L (pc + 1) (vL (x - y) :: st)) : aW G cc own mn nL ret R Q Xp k n S L pc (vL y :: vL x :: st) := by
  intro p e s m args below meth c C H locs ls hH hS hl
  exact lv_lsub C.1 C.2.1 hd (by rw [← Int64.ofInt_sub]; exact (kk p e s m args below meth c C H locs ls hH hS hl))
theorem a_lmul {x y : Int} (hd : decode cc pc = .ok (.lmul, 1)) (kk : aW G cc own mn nL ret R Q Xp k n S L (pc + 1) (vL (x * y) :: st)) : aW G cc own mn nL ret R Q Xp k n S L pc (vL y :: vL x :: st) := by
  intro p e s m args below meth c C H locs ls hH hS hl
  exact lv_lmul C.1 C.2.1 hd (by rw [← Int64.ofInt_mul]; exact (kk p e s m args below meth c C H locs ls hH hS hl))
theorem a_iand {x y : Int} (hd : decode cc pc = .ok (.iand, 1)) (kk : aW G cc own mn nL ret R Q Xp k n S L (pc + 1) (vI (q_and x y) :: st)) : aW G cc own mn nL ret R Q Xp k n S L pc (vI y :: vI x :: st) := by
  intro p e s m args below meth c C H locs ls hH hS hl
  have h : W p G.1 e R s m args below meth c H locs k n (Q below args s) (F0 m (pc + 1) ls (vI (q_and x y) :: st)) := kk p e s m args below meth c C H locs ls hH hS hl
  unfold vI q_and at h
  rw [oi_ti] at h
  exact lv_iand C.1 C.2.1 hd h
theorem a_ior {x y : Int} (hd : decode cc pc = .ok (.ior, 1)) (kk : aW G cc own mn nL ret R Q Xp k n S L (pc + 1) (vI (q_or x y) :: st)) : aW G cc own mn nL ret R Q Xp k n S L pc (vI y :: vI x :: st) := by
  intro p e s m args below meth c C H locs ls hH hS hl
  have h : W p G.1 e R s m args below meth c H locs k n (Q below args s) (F0 m (pc + 1) ls (vI (q_or x y) :: st)) := kk p e s m args below meth c C H locs ls hH hS hl
  unfold vI q_or at h
  rw [oi_ti] at h
  exact lv_ior C.1 C.2.1 hd h
theorem a_ixor {x y : Int} (hd : decode cc pc = .ok (.ixor, 1)) (kk : aW G cc own mn nL ret R Q Xp k n S L (pc + 1) (vI (q_xor x y) :: st)) : aW G cc own mn nL ret R Q Xp k n S L pc (vI y :: vI x :: st) := by
  intro p e s m args below meth c C H locs ls hH hS hl
  have h : W p G.1 e R s m args below meth c H locs k n (Q below args s) (F0 m (pc + 1) ls (vI (q_xor x y) :: st)) := kk p e s m args below meth c C H locs ls hH hS hl
  unfold vI q_xor at h
  rw [oi_ti] at h
  exact lv_ixor C.1 C.2.1 hd h
theorem a_ishl {x y : Int} (hd : decode cc pc = .ok (.ishl, 1)) (kk : aW G cc own mn nL ret R Q Xp k n S L (pc + 1) (vI (q_shl x y) :: st)) : aW G cc own mn nL ret R Q Xp k n S L pc (vI y :: vI x :: st) := by
  intro p e s m args below meth c C H locs ls hH hS hl
  have h : W p G.1 e R s m args below meth c H locs k n (Q below args s) (F0 m (pc + 1) ls (vI (q_shl x y) :: st)) := kk p e s m args below meth c C H locs ls hH hS hl
  unfold vI q_shl at h
  rw [oi_ti] at h
  exact lv_ishl C.1 C.2.1 hd h
theorem a_ishr {x y : Int} (hd : decode cc pc = .ok (.ishr, 1)) (kk : aW G cc own mn nL ret R Q Xp k n S L (pc + 1) (vI (q_shr x y) :: st)) : aW G cc own mn nL ret R Q Xp k n S L pc (vI y :: vI x :: st) := by
  intro p e s m args below meth c C H locs ls hH hS hl
  have h : W p G.1 e R s m args below meth c H locs k n (Q below args s) (F0 m (pc + 1) ls (vI (q_shr x y) :: st)) := kk p e s m args below meth c C H locs ls hH hS hl
  unfold vI q_shr at h
  rw [oi_ti] at h
  exact lv_ishr C.1 C.2.1 hd h
theorem a_iushr {x y : Int} (hd : decode cc pc = .ok (.iushr, 1)) (kk : aW G cc own mn nL ret R Q Xp k n S L (pc + 1) (vI (q_ushr x y) :: st)) : aW G cc own mn nL ret R Q Xp k n S L pc (vI y :: vI x :: st) := by
  intro p e s m args below meth c C H locs ls hH hS hl
  have h : W p G.1 e R s m args below meth c H locs k n (Q below args s) (F0 m (pc + 1) ls (vI (q_ushr x y) :: st)) := kk p e s m args below meth c C H locs ls hH hS hl
  unfold vI q_ushr at h
  rw [oi_ti] at h
  exact lv_iushr C.1 C.2.1 hd rfl h
theorem a_irem {x y : Int} (hd : decode cc pc = .ok (.irem, 1)) (hz : ¬ Int32.ofInt y = 0) (kk : aW G cc own mn nL ret R Q Xp k n S L (pc + 1) (vI (q_rem x y) :: st)) : aW G cc own mn nL ret R Q Xp k n S L pc (vI y :: vI x :: st) := by
  intro p e s m args below meth c C H locs ls hH hS hl
  have h : W p G.1 e R s m args below meth c H locs k n (Q below args s) (F0 m (pc + 1) ls (vI (q_rem x y) :: st)) := kk p e s m args below meth c C H locs ls hH hS hl
  unfold vI q_rem at h
  rw [oi_ti] at h
  exact lv_irem C.1 C.2.1 hd hz h
theorem a_land {x y : Int} (hd : decode cc pc = .ok (.land, 1)) (kk : aW G cc own mn nL ret R Q Xp k n S L (pc + 1) (vL (q_land x y) :: st)) : aW G cc own mn nL ret R Q Xp k n S L pc (vL y :: vL x :: st) := by
  intro p e s m args below meth c C H locs ls hH hS hl
  have h : W p G.1 e R s m args below meth c H locs k n (Q below args s) (F0 m (pc + 1) ls (vL (q_land x y) :: st)) := kk p e s m args below meth c C H locs ls hH hS hl
  unfold vL q_land at h
  rw [ol_ti] at h
  exact lv_land C.1 C.2.1 hd h
theorem a_lor {x y : Int} (hd : decode cc pc = .ok (.lor, 1)) (kk : aW G cc own mn nL ret R Q Xp k n S L (pc + 1) (vL (q_lor x y) :: st)) : aW G cc own mn nL ret R Q Xp k n S L pc (vL y :: vL x :: st) := by
  intro p e s m args below meth c C H locs ls hH hS hl
  have h : W p G.1 e R s m args below meth c H locs k n (Q below args s) (F0 m (pc + 1) ls (vL (q_lor x y) :: st)) := kk p e s m args below meth c C H locs ls hH hS hl
  unfold vL q_lor at h
  rw [ol_ti] at h
  exact lv_lor C.1 C.2.1 hd h
theorem a_lshl {x y : Int} (hd : decode cc pc = .ok (.lshl, 1)) (kk : aW G cc own mn nL ret R Q Xp k n S L (pc + 1) (vL (q_lshl x y) :: st)) : aW G cc own mn nL ret R Q Xp k n S L pc (vI y :: vL x :: st) := by
  intro p e s m args below meth c C H locs ls hH hS hl
  have h : W p G.1 e R s m args below meth c H locs k n (Q below args s) (F0 m (pc + 1) ls (vL (q_lshl x y) :: st)) := kk p e s m args below meth c C H locs ls hH hS hl
  unfold vL q_lshl at h
  rw [ol_ti] at h
  exact lv_lshl C.1 C.2.1 hd rfl h
theorem a_lshr {x y : Int} (hd : decode cc pc = .ok (.lshr, 1)) (kk : aW G cc own mn nL ret R Q Xp k n S L (pc + 1) (vL (q_lshr x y) :: st)) : aW G cc own mn nL ret R Q Xp k n S L pc (vI y :: vL x :: st) := by
  intro p e s m args below meth c C H locs ls hH hS hl
  have h : W p G.1 e R s m args below meth c H locs k n (Q below args s) (F0 m (pc + 1) ls (vL (q_lshr x y) :: st)) := kk p e s m args below meth c C H locs ls hH hS hl
  unfold vL q_lshr at h
  rw [ol_ti] at h
  exact lv_lshr C.1 C.2.1 hd rfl h
theorem a_lushr {x y : Int} (hd : decode cc pc = .ok (.lushr, 1)) (kk : aW G cc own mn nL ret R Q Xp k n S L (pc + 1) (vL (q_lushr x y) :: st)) : aW G cc own mn nL ret R Q Xp k n S L pc (vI y :: vL x :: st) := by
  intro p e s m args below meth c C H locs ls hH hS hl
  have h : W p G.1 e R s m args below meth c H locs k n (Q below args s) (F0 m (pc + 1) ls (vL (q_lushr x y) :: st)) := kk p e s m args below meth c C H locs ls hH hS hl
  unfold vL q_lushr at h
  rw [ol_ti] at h
  exact lv_lushr C.1 C.2.1 hd rfl h
theorem a_ldiv {x y : Int} (hd : decode cc pc = .ok (.ldiv, 1)) (hz : ¬ Int64.ofInt y = 0) (kk : aW G cc own mn nL ret R Q Xp k n S L (pc + 1) (vL (q_ldiv x y) :: st)) : aW G cc own mn nL ret R Q Xp k n S L pc (vL y :: vL x :: st) := by
  intro p e s m args below meth c C H locs ls hH hS hl
  have h : W p G.1 e R s m args below meth c H locs k n (Q below args s) (F0 m (pc + 1) ls (vL (q_ldiv x y) :: st)) := kk p e s m args below meth c C H locs ls hH hS hl
  unfold vL q_ldiv at h
  rw [ol_ti] at h
  exact lv_ldiv C.1 C.2.1 hd hz h
theorem a_lrem {x y : Int} (hd : decode cc pc = .ok (.lrem, 1)) (hz : ¬ Int64.ofInt y = 0) (kk : aW G cc own mn nL ret R Q Xp k n S L (pc + 1) (vL (q_lrem x y) :: st)) : aW G cc own mn nL ret R Q Xp k n S L pc (vL y :: vL x :: st) := by
  intro p e s m args below meth c C H locs ls hH hS hl
  have h : W p G.1 e R s m args below meth c H locs k n (Q below args s) (F0 m (pc + 1) ls (vL (q_lrem x y) :: st)) := kk p e s m args below meth c C H locs ls hH hS hl
  unfold vL q_lrem at h
  rw [ol_ti] at h
  exact lv_lrem C.1 C.2.1 hd hz h
theorem a_lcmp {x y : Int} (hd : decode cc pc = .ok (.lcmp, 1)) (kk : aW G cc own mn nL ret R Q Xp k n S L (pc + 1) (vI (q_lcmp x y) :: st)) : aW G cc own mn nL ret R Q Xp k n S L pc (vL y :: vL x :: st) := by
  intro p e s m args below meth c C H locs ls hH hS hl
  exact W.lcmp C.1 C.2.1 hd (by rw [q_lcmp_e]; exact (kk p e s m args below meth c C H locs ls hH hS hl))
theorem a_ineg {x : Int} (hd : decode cc pc = .ok (.ineg, 1)) (kk : aW G cc own mn nL ret R Q Xp k n S L (pc + 1) (vI (-x) :: st)) : aW G cc own mn nL ret R Q Xp k n S L pc (vI x :: st) := by
  intro p e s m args below meth c C H locs ls hH hS hl
  exact lv_ineg C.1 C.2.1 hd (by rw [← Int32.ofInt_neg]; exact (kk p e s m args below meth c C H locs ls hH hS hl))
theorem a_i2l {x : Int} (hd : decode cc pc = .ok (.i2l, 1)) (kk : aW G cc own mn nL ret R Q Xp k n S L (pc + 1) (vL (wi x) :: st)) : aW G cc own mn nL ret R Q Xp k n S L pc (vI x :: st) := by
  intro p e s m args below meth c C H locs ls hH hS hl
  exact lv_i2l C.1 C.2.1 hd (oi_i2l x) (kk p e s m args below meth c C H locs ls hH hS hl)
theorem a_l2i {x : Int} (hd : decode cc pc = .ok (.l2i, 1)) (kk : aW G cc own mn nL ret R Q Xp k n S L (pc + 1) (vI x :: st)) : aW G cc own mn nL ret R Q Xp k n S L pc (vL x :: st) := by
  intro p e s m args below meth c C H locs ls hH hS hl
  exact lv_l2i C.1 C.2.1 hd (ol_l2i x) (kk p e s m args below meth c C H locs ls hH hS hl)
theorem a_i2b {x : Int} (hd : decode cc pc = .ok (.i2b, 1)) (kk : aW G cc own mn nL ret R Q Xp k n S L (pc + 1) (vI (q_b x) :: st)) : aW G cc own mn nL ret R Q Xp k n S L pc (vI x :: st) := by
  intro p e s m args below meth c C H locs ls hH hS hl
  exact lv_i2b C.1 C.2.1 hd (oi_ti _).symm (kk p e s m args below meth c C H locs ls hH hS hl)
theorem a_dupI {x : Int} (hd : decode cc pc = .ok (.dup, 1)) (kk : aW G cc own mn nL ret R Q Xp k n S L (pc + 1) (vI x :: vI x :: st)) : aW G cc own mn nL ret R Q Xp k n S L pc (vI x :: st) := by
  intro p e s m args below meth c C H locs ls hH hS hl
  exact lv_dup C.1 C.2.1 hd rfl (kk p e s m args below meth c C H locs ls hH hS hl)
theorem a_dupR {x : Nat} (hd : decode cc pc = .ok (.dup, 1)) (kk : aW G cc own mn nL ret R Q Xp k n S L (pc + 1) (.ref x :: .ref x :: st)) : aW G cc own mn nL ret R Q Xp k n S L pc (.ref x :: st) := by
  intro p e s m args below meth c C H locs ls hH hS hl
  exact lv_dup C.1 C.2.1 hd rfl (kk p e s m args below meth c C H locs ls hH hS hl)
theorem a_dup2 {x : Int} {r : Nat} (hd : decode cc pc = .ok (.dup2, 1)) (kk : aW G cc own mn nL ret R Q Xp k n S L (pc + 1) (vI x :: .ref r :: vI x :: .ref r :: st)) : aW G cc own mn nL ret R Q Xp k n S L pc (vI x :: .ref r :: st) := by
  intro p e s m args below meth c C H locs ls hH hS hl
  exact lv_dup2_11 C.1 C.2.1 hd rfl rfl (kk p e s m args below meth c C H locs ls hH hS hl)
theorem a_popI {x : Int} (hd : decode cc pc = .ok (.pop, 1)) (kk : aW G cc own mn nL ret R Q Xp k n S L (pc + 1) st) : aW G cc own mn nL ret R Q Xp k n S L pc (vI x :: st) := by
  intro p e s m args below meth c C H locs ls hH hS hl
  exact lv_pop C.1 C.2.1 hd rfl (kk p e s m args below meth c C H locs ls hH hS hl)
theorem a_goto {off : Int} (t : Nat) (hd : decode cc pc = .ok (.goto off, 3)) (ht : (pc : Int) + off = (t : Int)) (kk : aW G cc own mn nL ret R Q Xp k n S L t st) : aW G cc own mn nL ret R Q Xp k n S L pc st := by
  intro p e s m args below meth c C H locs ls hH hS hl
  exact lv_goto C.1 C.2.1 hd ht (kk p e s m args below meth c C H locs ls hH hS hl)
theorem a_icmp_eq {x y x' y' : Int} {off : Int} (t : Nat) (hd : decode cc pc = .ok (.if_icmp .eq off, 3)) (ht : (pc : Int) + off = (t : Int)) (hx : wi x = x') (hy : wi y = y') (h : (if x' = y' then T else F) = some o) (kT : x' = y' → T = some o → aW G cc own mn nL ret R Q Xp k n S L t st) (kF : ¬ (x' = y') → F = some o → aW G cc own mn nL ret R Q Xp k n S L (pc + 3) st) : aW G cc own mn nL ret R Q Xp k n S L pc (vI y :: vI x :: st) := by
  intro p e s m args below meth c C H locs ls hH hS hl
  refine lv_icmp_eq C.1 C.2.1 hd ht (fun q => ?_) (fun q => ?_)
  · have qq : x' = y' := (by rw [← hx, ← hy]; exact (oi_eq x y).mp q)
    exact kT qq (by rw [if_pos qq] at h; exact h) p e s m args below meth c C H locs ls hH hS hl
  · have qq : ¬ (x' = y') := (by rw [← hx, ← hy]; exact fun z => q ((oi_eq x y).mpr z))
    exact kF qq (by rw [if_neg qq] at h; exact h) p e s m args below meth c C H locs ls hH hS hl
theorem a_if_eq {x x' : Int} {off : Int} (t : Nat) (hd : decode cc pc = .ok (.ifCond .eq off, 3)) (ht : (pc : Int) + off = (t : Int)) (hx : wi x = x') (h : (if x' = 0 then T else F) = some o) (kT : x' = 0 → T = some o → aW G cc own mn nL ret R Q Xp k n S L t st) (kF : ¬ (x' = 0) → F = some o → aW G cc own mn nL ret R Q Xp k n S L (pc + 3) st) : aW G cc own mn nL ret R Q Xp k n S L pc (vI x :: st) := by
  intro p e s m args below meth c C H locs ls hH hS hl
  refine lv_if_eq C.1 C.2.1 hd ht (fun q => ?_) (fun q => ?_)
  · have qq : x' = 0 := (by rw [← hx, ← wi_0]; exact (oi_eq x 0).mp q)
    exact kT qq (by rw [if_pos qq] at h; exact h) p e s m args below meth c C H locs ls hH hS hl
  · have qq : ¬ (x' = 0) := (by rw [← hx, ← wi_0]; exact fun z => q ((oi_eq x 0).mpr z))
    exact kF qq (by rw [if_neg qq] at h; exact h) p e s m args below meth c C H locs ls hH hS hl
theorem a_icmp_ne {x y x' y' : Int} {off : Int} (t : Nat) (hd : decode cc pc = .ok (.if_icmp .ne off, 3)) (ht : (pc : Int) + off = (t : Int)) (hx : wi x = x') (hy : wi y = y') (h : (if ¬ x' = y' then T else F) = some o) (kT : ¬ x' = y' → T = some o → aW G cc own mn nL ret R Q Xp k n S L t st) (kF : ¬ (¬ x' = y') → F = some o → aW G cc own mn nL ret R Q Xp k n S L (pc + 3) st) : aW G cc own mn nL ret R Q Xp k n S L pc (vI y :: vI x :: st) := by
  intro p e s m args below meth c C H locs ls hH hS hl
  refine lv_icmp_ne C.1 C.2.1 hd ht (fun q => ?_) (fun q => ?_)
  · have qq : ¬ x' = y' := (by rw [← hx, ← hy]; exact fun z => q ((oi_eq x y).mpr z))
    exact kT qq (by rw [if_pos qq] at h; exact h) p e s m args below meth c C H locs ls hH hS hl
  · have qq : ¬ (¬ x' = y') := (by rw [← hx, ← hy]; exact fun z => z ((oi_eq x y).mp q))
    exact kF qq (by rw [if_neg qq] at h; exact h) p e s m args below meth c C H locs ls hH hS hl
theorem a_if_ne {x x' : Int} {off : Int} (t : Nat) (hd : decode cc pc = .ok (.ifCond .ne off, 3)) (ht : (pc : Int) + off = (t : Int)) (hx : wi x = x') (h : (if ¬ x' = 0 then T else F) = some o) (kT : ¬ x' = 0 → T = some o → aW G cc own mn nL ret R Q Xp k n S L t st) (kF : ¬ (¬ x' = 0) → F = some o → aW G cc own mn nL ret R Q Xp k n S L (pc + 3) st) : aW G cc own mn nL ret R Q Xp k n S L pc (vI x :: st) := by
  intro p e s m args below meth c C H locs ls hH hS hl
  refine lv_if_ne C.1 C.2.1 hd ht (fun q => ?_) (fun q => ?_)
  · have qq : ¬ x' = 0 := (by rw [← hx, ← wi_0]; exact fun z => q ((oi_eq x 0).mpr z))
    exact kT qq (by rw [if_pos qq] at h; exact h) p e s m args below meth c C H locs ls hH hS hl
  · have qq : ¬ (¬ x' = 0) := (by rw [← hx, ← wi_0]; exact fun z => z ((oi_eq x 0).mp q))
    exact kF qq (by rw [if_neg qq] at h; exact h) p e s m args below meth c C H locs ls hH hS hl
theorem a_icmp_lt {x y x' y' : Int} {off : Int} (t : Nat) (hd : decode cc pc = .ok (.if_icmp .lt off, 3)) (ht : (pc : Int) + off = (t : Int)) (hx : wi x = x') (hy : wi y = y') (h : (if x' < y' then T else F) = some o) (kT : x' < y' → T = some o → aW G cc own mn nL ret R Q Xp k n S L t st) (kF : ¬ (x' < y') → F = some o → aW G cc own mn nL ret R Q Xp k n S L (pc + 3) st) : aW G cc own mn nL ret R Q Xp k n S L pc (vI y :: vI x :: st) := by
  intro p e s m args below meth c C H locs ls hH hS hl
  refine lv_icmp_lt C.1 C.2.1 hd ht (fun q => ?_) (fun q => ?_)
  · have qq : x' < y' := (by rw [← hx, ← hy]; exact (oi_lt x y).mp q)
    exact kT qq (by rw [if_pos qq] at h; exact h) p e s m args below meth c C H locs ls hH hS hl
  · have qq : ¬ (x' < y') := (by rw [← hx, ← hy]; exact fun z => q ((oi_lt x y).mpr z))
    exact kF qq (by rw [if_neg qq] at h; exact h) p e s m args below meth c C H locs ls hH hS hl
theorem a_if_lt {x x' : Int} {off : Int} (t : Nat) (hd : decode cc pc = .ok (.ifCond .lt off, 3)) (ht : (pc : Int) + off = (t : Int)) (hx : wi x = x') (h : (if x' < 0 then T else F) = some o) (kT : x' < 0 → T = some o → aW G cc own mn nL ret R Q Xp k n S L t st) (kF : ¬ (x' < 0) → F = some o → aW G cc own mn nL ret R Q Xp k n S L (pc + 3) st) : aW G cc own mn nL ret R Q Xp k n S L pc (vI x :: st) := by
  intro p e s m args below meth c C H locs ls hH hS hl
  refine lv_if_lt C.1 C.2.1 hd ht (fun q => ?_) (fun q => ?_)
  · have qq : x' < 0 := (by rw [← hx, ← wi_0]; exact (oi_lt x 0).mp q)
    exact kT qq (by rw [if_pos qq] at h; exact h) p e s m args below meth c C H locs ls hH hS hl
  · have qq : ¬ (x' < 0) := (by rw [← hx, ← wi_0]; exact fun z => q ((oi_lt x 0).mpr z))
    exact kF qq (by rw [if_neg qq] at h; exact h) p e s m args below meth c C H locs ls hH hS hl
theorem a_icmp_ge {x y x' y' : Int} {off : Int} (t : Nat) (hd : decode cc pc = .ok (.if_icmp .ge off, 3)) (ht : (pc : Int) + off = (t : Int)) (hx : wi x = x') (hy : wi y = y') (h : (if y' ≤ x' then T else F) = some o) (kT : y' ≤ x' → T = some o → aW G cc own mn nL ret R Q Xp k n S L t st) (kF : ¬ (y' ≤ x') → F = some o → aW G cc own mn nL ret R Q Xp k n S L (pc + 3) st) : aW G cc own mn nL ret R Q Xp k n S L pc (vI y :: vI x :: st) := by
  intro p e s m args below meth c C H locs ls hH hS hl
  refine lv_icmp_ge C.1 C.2.1 hd ht (fun q => ?_) (fun q => ?_)
  · have qq : y' ≤ x' := (by rw [← hx, ← hy]; exact (oi_le y x).mp q)
    exact kT qq (by rw [if_pos qq] at h; exact h) p e s m args below meth c C H locs ls hH hS hl
  · have qq : ¬ (y' ≤ x') := (by rw [← hx, ← hy]; exact fun z => q ((oi_le y x).mpr z))
    exact kF qq (by rw [if_neg qq] at h; exact h) p e s m args below meth c C H locs ls hH hS hl
theorem a_if_ge {x x' : Int} {off : Int} (t : Nat) (hd : decode cc pc = .ok (.ifCond .ge off, 3)) (ht : (pc : Int) + off = (t : Int)) (hx : wi x = x') (h : (if 0 ≤ x' then T else F) = some o) (kT : 0 ≤ x' → T = some o → aW G cc own mn nL ret R Q Xp k n S L t st) (kF : ¬ (0 ≤ x') → F = some o → aW G cc own mn nL ret R Q Xp k n S L (pc + 3) st) : aW G cc own mn nL ret R Q Xp k n S L pc (vI x :: st) := by
  intro p e s m args below meth c C H locs ls hH hS hl
  refine lv_if_ge C.1 C.2.1 hd ht (fun q => ?_) (fun q => ?_)
  · have qq : 0 ≤ x' := (by rw [← hx, ← wi_0]; exact (oi_le 0 x).mp q)
    exact kT qq (by rw [if_pos qq] at h; exact h) p e s m args below meth c C H locs ls hH hS hl
  · have qq : ¬ (0 ≤ x') := (by rw [← hx, ← wi_0]; exact fun z => q ((oi_le 0 x).mpr z))
    exact kF qq (by rw [if_neg qq] at h; exact h) p e s m args below meth c C H locs ls hH hS hl
theorem a_icmp_gt {x y x' y' : Int} {off : Int} (t : Nat) (hd : decode cc pc = .ok (.if_icmp .gt off, 3)) (ht : (pc : Int) + off = (t : Int)) (hx : wi x = x') (hy : wi y = y') (h : (if y' < x' then T else F) = some o) (kT : y' < x' → T = some o → aW G cc own mn nL ret R Q Xp k n S L t st) (kF : ¬ (y' < x') → F = some o → aW G cc own mn nL ret R Q Xp k n S L (pc + 3) st) : aW G cc own mn nL ret R Q Xp k n S L pc (vI y :: vI x :: st) := by
  intro p e s m args below meth c C H locs ls hH hS hl
  refine lv_icmp_gt C.1 C.2.1 hd ht (fun q => ?_) (fun q => ?_)
  · have qq : y' < x' := (by rw [← hx, ← hy]; exact (oi_lt y x).mp q)
    exact kT qq (by rw [if_pos qq] at h; exact h) p e s m args below meth c C H locs ls hH hS hl
  · have qq : ¬ (y' < x') := (by rw [← hx, ← hy]; exact fun z => q ((oi_lt y x).mpr z))
    exact kF qq (by rw [if_neg qq] at h; exact h) p e s m args below meth c C H locs ls hH hS hl
theorem a_if_gt {x x' : Int} {off : Int} (t : Nat) (hd : decode cc pc = .ok (.ifCond .gt off, 3)) (ht : (pc : Int) + off = (t : Int)) (hx : wi x = x') (h : (if 0 < x' then T else F) = some o) (kT : 0 < x' → T = some o → aW G cc own mn nL ret R Q Xp k n S L t st) (kF : ¬ (0 < x') → F = some o → aW G cc own mn nL ret R Q Xp k n S L (pc + 3) st) : aW G cc own mn nL ret R Q Xp k n S L pc (vI x :: st) := by
  intro p e s m args below meth c C H locs ls hH hS hl
  refine lv_if_gt C.1 C.2.1 hd ht (fun q => ?_) (fun q => ?_)
  · have qq : 0 < x' := (by rw [← hx, ← wi_0]; exact (oi_lt 0 x).mp q)
    exact kT qq (by rw [if_pos qq] at h; exact h) p e s m args below meth c C H locs ls hH hS hl
  · have qq : ¬ (0 < x') := (by rw [← hx, ← wi_0]; exact fun z => q ((oi_lt 0 x).mpr z))
    exact kF qq (by rw [if_neg qq] at h; exact h) p e s m args below meth c C H locs ls hH hS hl
theorem a_icmp_le {x y x' y' : Int} {off : Int} (t : Nat) (hd : decode cc pc = .ok (.if_icmp .le off, 3)) (ht : (pc : Int) + off = (t : Int)) (hx : wi x = x') (hy : wi y = y') (h : (if x' ≤ y' then T else F) = some o) (kT : x' ≤ y' → T = some o → aW G cc own mn nL ret R Q Xp k n S L t st) (kF : ¬ (x' ≤ y') → F = some o → aW G cc own mn nL ret R Q Xp k n S L (pc + 3) st) : aW G cc own mn nL ret R Q Xp k n S L pc (vI y :: vI x :: st) := by
  intro p e s m args below meth c C H locs ls hH hS hl
  refine lv_icmp_le C.1 C.2.1 hd ht (fun q => ?_) (fun q => ?_)
  · have qq : x' ≤ y' := (by rw [← hx, ← hy]; exact (oi_le x y).mp q)
    exact kT qq (by rw [if_pos qq] at h; exact h) p e s m args below meth c C H locs ls hH hS hl
  · have qq : ¬ (x' ≤ y') := (by rw [← hx, ← hy]; exact fun z => q ((oi_le x y).mpr z))
    exact kF qq (by rw [if_neg qq] at h; exact h) p e s m args below meth c C H locs ls hH hS hl
theorem a_if_le {x x' : Int} {off : Int} (t : Nat) (hd : decode cc pc = .ok (.ifCond .le off, 3)) (ht : (pc : Int) + off = (t : Int)) (hx : wi x = x') (h : (if x' ≤ 0 then T else F) = some o) (kT : x' ≤ 0 → T = some o → aW G cc own mn nL ret R Q Xp k n S L t st) (kF : ¬ (x' ≤ 0) → F = some o → aW G cc own mn nL ret R Q Xp k n S L (pc + 3) st) : aW G cc own mn nL ret R Q Xp k n S L pc (vI x :: st) := by
  intro p e s m args below meth c C H locs ls hH hS hl
  refine lv_if_le C.1 C.2.1 hd ht (fun q => ?_) (fun q => ?_)
  · have qq : x' ≤ 0 := (by rw [← hx, ← wi_0]; exact (oi_le x 0).mp q)
    exact kT qq (by rw [if_pos qq] at h; exact h) p e s m args below meth c C H locs ls hH hS hl
  · have qq : ¬ (x' ≤ 0) := (by rw [← hx, ← wi_0]; exact fun z => q ((oi_le x 0).mpr z))
    exact kF qq (by rw [if_neg qq] at h; exact h) p e s m args below meth c C H locs ls hH hS hl
theorem a_tsIn {dflt lo hi off v : Int} {offs : Array Int} {len : Nat} {x : Int} (t : Nat) (hd : decode cc pc = .ok (.tableswitch dflt lo hi offs, len)) (hx : wi x = v) (h1 : lo ≤ v ∧ v ≤ hi) (ho : offs[(v - lo).toNat]? = some off) (ht : (pc : Int) + off = (t : Int)) (kk : aW G cc own mn nL ret R Q Xp k n S L t st) : aW G cc own mn nL ret R Q Xp k n S L pc (vI x :: st) := by
  intro p e s m args below meth c C H locs ls hH hS hl
  exact lv_tableIn C.1 C.2.1 hd (by show ¬ wi x < lo; omega) (by show ¬ hi < wi x; omega) (by show offs[(wi x - lo).toNat]? = some off; rw [hx]; exact ho) ht (kk p e s m args below meth c C H locs ls hH hS hl)
theorem a_tsOut {dflt lo hi v : Int} {offs : Array Int} {len : Nat} {x : Int} (t : Nat) (hd : decode cc pc = .ok (.tableswitch dflt lo hi offs, len)) (hx : wi x = v) (h1 : v < lo ∨ hi < v) (ht : (pc : Int) + dflt = (t : Int)) (kk : aW G cc own mn nL ret R Q Xp k n S L t st) : aW G cc own mn nL ret R Q Xp k n S L pc (vI x :: st) := by
  intro p e s m args below meth c C H locs ls hH hS hl
  exact lv_tableOut C.1 C.2.1 hd (by show wi x < lo ∨ hi < wi x; omega) ht (kk p e s m args below meth c C H locs ls hH hS hl)
theorem a_lsw {dflt off v : Int} {ps : Array (Int × Int)} {len : Nat} {x : Int} (t : Nat) (hd : decode cc pc = .ok (.lookupswitch dflt ps, len)) (hp : (ps.toList.zip (ps.toList.drop 1)).all (fun (a, next) => a.1 < next.1) = true) (hx : wi x = v) (ho : Op.lookupswitch.offset ps.toList dflt v = off) (ht : (pc : Int) + off = (t : Int)) (kk : aW G cc own mn nL ret R Q Xp k n S L t st) : aW G cc own mn nL ret R Q Xp k n S L pc (vI x :: st) := by
  intro p e s m args below meth c C H locs ls hH hS hl
  exact lv_lookup C.1 C.2.1 hd hp (by show Op.lookupswitch.offset ps.toList dflt (wi x) = off; rw [hx]; exact ho) ht (kk p e s m args below meth c C H locs ls hH hS hl)
theorem a_getI {ob ci j i N : Nat} {tm : List Value} {Cn : String} {Tt : u_T} {ty : Nat → FieldType} (hd : decode cc pc = .ok (.getfield i, 3)) (hK : clK ci Cn Tt N ty) (hc : S.1[ob]? = some (.inl (ci, tm))) (hj : j < N) (ht : tm[j]? = some (.int 0)) (hw : Cond.fieldLink own i (Tt j).1 (Tt j).2.1 (Tt j).2.2.1 ∈ lw_good) (kk : aW G cc own mn nL ret R Q Xp k n S L (pc + 3) (vI (S.2 ob j) :: st)) : aW G cc own mn nL ret R Q Xp k n S L pc (.ref (gB G + ob) :: st) := by
  intro p e s m args below meth c C H locs ls hH hS hl
  exact va_get (D := gD G) (C := Cn) (T := Tt) (N := N) (ci := ci) (v := vI (S.2 ob j)) C.1 C.2.1 C.2.2.2.2.2.1 hK.2.1 C.2.2.2.2.1 C.2.2.2.2.2.2.2.2.1.1 hH.1 ob (ws_some hc) hK.1 j hj (C.2.2.2.2.2.1 _ hw) (fun _ h9 => h9) (by rw [List.getElem?_mapIdx, ht]; rfl) hd (kk p e s m args below meth c C H locs ls hH hS hl)
theorem a_getIN {host : String} {ob ci j i N : Nat} {tm : List Value} {Cn : String} {Tt : u_T} {ty : Nat → FieldType} (hd : decode cc pc = .ok (.getfield i, 3)) (hK : clK ci Cn Tt N ty) (hc : S.1[ob]? = some (.inl (ci, tm))) (hj : j < N) (ht : tm[j]? = some (.int 0)) (hw : Cond.fieldLinkNest own i (Tt j).1 (Tt j).2.1 (Tt j).2.2.1 host ∈ lw_nest) (kk : aW G cc own mn nL ret R Q Xp k n S L (pc + 3) (vI (S.2 ob j) :: st)) : aW G cc own mn nL ret R Q Xp k n S L pc (.ref (gB G + ob) :: st) := by
  intro p e s m args below meth c C H locs ls hH hS hl
  exact va_getN (D := gD G) (C := Cn) (T := Tt) (N := N) (ci := ci) (v := vI (S.2 ob j)) C.1 C.2.1 C.2.2.2.2.2.1 hK.2.1 C.2.2.2.2.1 C.2.2.2.2.2.2.2.2.1.1 hH.1 ob (ws_some hc) hK.1 j hj (va_Nw.use rfl (C.2.2.2.2.2.2.2.2.1.2.1 _ hw)) (fun _ h9 => h9) (by rw [List.getElem?_mapIdx, ht]; rfl) hd (kk p e s m args below meth c C H locs ls hH hS hl)
theorem a_getL {ob ci j i N : Nat} {tm : List Value} {Cn : String} {Tt : u_T} {ty : Nat → FieldType} (hd : decode cc pc = .ok (.getfield i, 3)) (hK : clK ci Cn Tt N ty) (hc : S.1[ob]? = some (.inl (ci, tm))) (hj : j < N) (ht : tm[j]? = some (.long 0)) (hw : Cond.fieldLink own i (Tt j).1 (Tt j).2.1 (Tt j).2.2.1 ∈ lw_good) (kk : aW G cc own mn nL ret R Q Xp k n S L (pc + 3) (vL (S.2 ob j) :: st)) : aW G cc own mn nL ret R Q Xp k n S L pc (.ref (gB G + ob) :: st) := by
  intro p e s m args below meth c C H locs ls hH hS hl
  exact va_get (D := gD G) (C := Cn) (T := Tt) (N := N) (ci := ci) (v := vL (S.2 ob j)) C.1 C.2.1 C.2.2.2.2.2.1 hK.2.1 C.2.2.2.2.1 C.2.2.2.2.2.2.2.2.1.1 hH.1 ob (ws_some hc) hK.1 j hj (C.2.2.2.2.2.1 _ hw) (fun _ h9 => h9) (by rw [List.getElem?_mapIdx, ht]; rfl) hd (kk p e s m args below meth c C H locs ls hH hS hl)
theorem a_getLN {host : String} {ob ci j i N : Nat} {tm : List Value} {Cn : String} {Tt : u_T} {ty : Nat → FieldType} (hd : decode cc pc = .ok (.getfield i, 3)) (hK : clK ci Cn Tt N ty) (hc : S.1[ob]? = some (.inl (ci, tm))) (hj : j < N) (ht : tm[j]? = some (.long 0)) (hw : Cond.fieldLinkNest own i (Tt j).1 (Tt j).2.1 (Tt j).2.2.1 host ∈ lw_nest) (kk : aW G cc own mn nL ret R Q Xp k n S L (pc + 3) (vL (S.2 ob j) :: st)) : aW G cc own mn nL ret R Q Xp k n S L pc (.ref (gB G + ob) :: st) := by
  intro p e s m args below meth c C H locs ls hH hS hl
  exact va_getN (D := gD G) (C := Cn) (T := Tt) (N := N) (ci := ci) (v := vL (S.2 ob j)) C.1 C.2.1 C.2.2.2.2.2.1 hK.2.1 C.2.2.2.2.1 C.2.2.2.2.2.2.2.2.1.1 hH.1 ob (ws_some hc) hK.1 j hj (va_Nw.use rfl (C.2.2.2.2.2.2.2.2.1.2.1 _ hw)) (fun _ h9 => h9) (by rw [List.getElem?_mapIdx, ht]; rfl) hd (kk p e s m args below meth c C H locs ls hH hS hl)
theorem a_getR {a : Nat} {ob ci j i N : Nat} {tm : List Value} {Cn : String} {Tt : u_T} {ty : Nat → FieldType} (hd : decode cc pc = .ok (.getfield i, 3)) (hK : clK ci Cn Tt N ty) (hc : S.1[ob]? = some (.inl (ci, tm))) (hj : j < N) (ht : tm[j]? = some (.ref a)) (hw : Cond.fieldLink own i (Tt j).1 (Tt j).2.1 (Tt j).2.2.1 ∈ lw_good) (kk : aW G cc own mn nL ret R Q Xp k n S L (pc + 3) (.ref (gB G + a) :: st)) : aW G cc own mn nL ret R Q Xp k n S L pc (.ref (gB G + ob) :: st) := by
  intro p e s m args below meth c C H locs ls hH hS hl
  exact va_get (D := gD G) (C := Cn) (T := Tt) (N := N) (ci := ci) (v := .ref (gB G + a)) C.1 C.2.1 C.2.2.2.2.2.1 hK.2.1 C.2.2.2.2.1 C.2.2.2.2.2.2.2.2.1.1 hH.1 ob (ws_some hc) hK.1 j hj (C.2.2.2.2.2.1 _ hw) (fun _ h9 => h9) (by rw [List.getElem?_mapIdx, ht]; rfl) hd (kk p e s m args below meth c C H locs ls hH hS hl)
theorem a_getRN {a : Nat} {host : String} {ob ci j i N : Nat} {tm : List Value} {Cn : String} {Tt : u_T} {ty : Nat → FieldType} (hd : decode cc pc = .ok (.getfield i, 3)) (hK : clK ci Cn Tt N ty) (hc : S.1[ob]? = some (.inl (ci, tm))) (hj : j < N) (ht : tm[j]? = some (.ref a)) (hw : Cond.fieldLinkNest own i (Tt j).1 (Tt j).2.1 (Tt j).2.2.1 host ∈ lw_nest) (kk : aW G cc own mn nL ret R Q Xp k n S L (pc + 3) (.ref (gB G + a) :: st)) : aW G cc own mn nL ret R Q Xp k n S L pc (.ref (gB G + ob) :: st) := by
  intro p e s m args below meth c C H locs ls hH hS hl
  exact va_getN (D := gD G) (C := Cn) (T := Tt) (N := N) (ci := ci) (v := .ref (gB G + a)) C.1 C.2.1 C.2.2.2.2.2.1 hK.2.1 C.2.2.2.2.1 C.2.2.2.2.2.2.2.2.1.1 hH.1 ob (ws_some hc) hK.1 j hj (va_Nw.use rfl (C.2.2.2.2.2.2.2.2.1.2.1 _ hw)) (fun _ h9 => h9) (by rw [List.getElem?_mapIdx, ht]; rfl) hd (kk p e s m args below meth c C H locs ls hH hS hl)
theorem s_put {p : Program} {l : Launch} {e : Env} {R : Room} {s : State} {m : MethodId} {args : Array Value} {below : List Frame} {meth : Method} {c : Code} {H H0 : Heap} {locs : List Loc} {cells slots : Nat} {Q : State → Prop} {cc : ByteArray} {pc : Nat} {ls : Array Slot} {rest : List Value} {D : va_G} {A : Nat → Prop} {a : Nat} {tys : List (ClassId × FieldType)} {ws : va_W}
    (hexec : p.tables.exec = Jvm.exec) (hb : c.code = cc) {own C : String} {T : u_T} {N ci index : Nat} {ty0 : Nat → FieldType} (hts : ∀ w ∈ lw_good, w.before args s = true) (hKl : clK ci C T N ty0) (hown : s.vm.findClass own = some m.cls) (hK : va_K D vwCl tys s) (hP : va_P D vwCl ws H) (hD : va_D A ws) (hS0 : va_S A H0 H locs) (q0 : Nat) {fs : List Value} (he : ws[q0]? = some (a, .inr (ci, fs))) (k : Nat) (hk : k < N)
    (hlink : (Cond.fieldLink own index (T k).1 (T k).2.1 (T k).2.2.1).before args s = true) (hfin : (T k).2.2.2 = false) {ty : FieldType} {v : Value} (hd : ty0 k = ty) (hn : narrow ty v = v) (hfit : fits ty v = true) (hl : k < fs.length) (hdg : decode cc pc = .ok (.putfield index, 3))
    (kk : ∀ (H1 : Heap) (locs1 : List Loc), va_P D vwCl (ws.set q0 (a, .inr (ci, fs.set k v))) H1 → va_S A H0 H1 locs1 → H1.size = H.size → W p l e R s m args below meth c H1 locs1 cells slots Q (F0 m (pc + 3) ls rest)) : W p l e R s m args below meth c H locs cells slots Q (F0 m pc ls (v :: .ref a :: rest)) := by
  obtain ⟨hc, hin, hty, hnm⟩ := hKl
  have hap := va_apart (own := own) hts hin ty0 hty hnm hK hc
  obtain ⟨r, h1, cell, q1, q2, q3, q4⟩ := hP q0 _ he
  have hr : r = (C, T, N) := Option.some.inj (h1.symm.trans hc)
  subst hr
  obtain ⟨hS, hfc, kC, hkC, hkind⟩ := hK.1 ci _ hc
  obtain ⟨cf, kf, fi, f, hi, hsl⟩ := hS k hk
  have hlay := hts _ (hin _ (u_in_lay hk))
  have hd2 : parseFieldDescriptor (T k).2.2.1 = some ty := by rw [hty k hk, hd]
  unfold u_lay at hlay
  rw [if_neg (by rw [hfin]; decide)] at hlay
  have hst := (u_facts hfc hkC (u_lays hts hin hk) hi).1
  have h6 := u_store hfc hkC hkind hlay hi hd2 hn hfit
  refine W.putK hexec hb (f := f) ⟨hown, hlink, ⟨_, _, _, hi⟩, hst⟩ (by rw [q2]; exact h6) q1 q3 (by rw [hsl]; exact k2_hasslot (q4 k hk)) rfl rfl hdg fun H' e1 e2 e3 => ?_
  rw [hsl] at e1 ⊢
  exact kk H' _ (hP.set hD he ⟨_, hc, t_OB.to (V := updV (vp_V fs) k v) ⟨_, e1, q2, q3, t_set q4 hap hk v⟩ (fun j _ => vp_updV_set hl v j)⟩ e3) (hS0.put e2 e3 (hD.2 q0 _ he)) e2
theorem s_putN {p : Program} {l : Launch} {e : Env} {R : Room} {s : State} {m : MethodId} {args : Array Value} {below : List Frame} {meth : Method} {c : Code} {H H0 : Heap} {locs : List Loc} {cells slots : Nat} {Q : State → Prop} {cc : ByteArray} {pc : Nat} {ls : Array Slot} {rest : List Value} {D : va_G} {A : Nat → Prop} {a : Nat} {tys : List (ClassId × FieldType)} {ws : va_W}
    (hexec : p.tables.exec = Jvm.exec) (hb : c.code = cc) {own C host : String} {T : u_T} {N ci index : Nat} {ty0 : Nat → FieldType} (hts : ∀ w ∈ lw_good, w.before args s = true) (hKl : clK ci C T N ty0) (hown : s.vm.findClass own = some m.cls) (hK : va_K D vwCl tys s) (hP : va_P D vwCl ws H) (hD : va_D A ws) (hS0 : va_S A H0 H locs) (q0 : Nat) {fs : List Value} (he : ws[q0]? = some (a, .inr (ci, fs))) (k : Nat) (hk : k < N)
    (hlink : (Cond.fieldLinkNest own index (T k).1 (T k).2.1 (T k).2.2.1 host).before args s = true) (hfin : (T k).2.2.2 = false) {ty : FieldType} {v : Value} (hd : ty0 k = ty) (hn : narrow ty v = v) (hfit : fits ty v = true) (hl : k < fs.length) (hdg : decode cc pc = .ok (.putfield index, 3))
    (kk : ∀ (H1 : Heap) (locs1 : List Loc), va_P D vwCl (ws.set q0 (a, .inr (ci, fs.set k v))) H1 → va_S A H0 H1 locs1 → H1.size = H.size → W p l e R s m args below meth c H1 locs1 cells slots Q (F0 m (pc + 3) ls rest)) : W p l e R s m args below meth c H locs cells slots Q (F0 m pc ls (v :: .ref a :: rest)) := by
  obtain ⟨hc, hin, hty, hnm⟩ := hKl
  have hap := va_apart (own := own) hts hin ty0 hty hnm hK hc
  obtain ⟨r, h1, cell, q1, q2, q3, q4⟩ := hP q0 _ he
  have hr : r = (C, T, N) := Option.some.inj (h1.symm.trans hc)
  subst hr
  obtain ⟨hS, hfc, kC, hkC, hkind⟩ := hK.1 ci _ hc
  obtain ⟨cf, kf, fi, f, hi, hsl⟩ := hS k hk
  have hlay := hts _ (hin _ (u_in_lay hk))
  have hd2 : parseFieldDescriptor (T k).2.2.1 = some ty := by rw [hty k hk, hd]
  unfold u_lay at hlay
  rw [if_neg (by rw [hfin]; decide)] at hlay
  have hst := (u_facts hfc hkC (u_lays hts hin hk) hi).1
  have h6 := u_store hfc hkC hkind hlay hi hd2 hn hfit
  refine va_WputK hexec hb (f := f) hown hlink hi hst (by rw [q2]; exact h6) q1 q3 (by rw [hsl]; exact k2_hasslot (q4 k hk)) rfl rfl hdg fun H' e1 e2 e3 => ?_
  rw [hsl] at e1 ⊢
  exact kk H' _ (hP.set hD he ⟨_, hc, t_OB.to (V := updV (vp_V fs) k v) ⟨_, e1, q2, q3, t_set q4 hap hk v⟩ (fun j _ => vp_updV_set hl v j)⟩ e3) (hS0.put e2 e3 (hD.2 q0 _ he)) e2
theorem s_putF {p : Program} {l : Launch} {e : Env} {R : Room} {s : State} {m : MethodId} {args : Array Value} {below : List Frame} {meth : Method} {c : Code} {H H0 : Heap} {locs : List Loc} {cells slots : Nat} {Q : State → Prop} {cc : ByteArray} {pc : Nat} {ls : Array Slot} {rest : List Value} {D : va_G} {A : Nat → Prop} {a : Nat} {tys : List (ClassId × FieldType)} {ws : va_W}
    (hexec : p.tables.exec = Jvm.exec) (hb : c.code = cc) {own C : String} {T : u_T} {N ci index : Nat} {ty0 : Nat → FieldType} (hts : ∀ w ∈ lw_good, w.before args s = true) (hKl : clK ci C T N ty0) (hown : s.vm.findClass own = some m.cls) (hK : va_K D vwCl tys s) (hP : va_P D vwCl ws H) (hD : va_D A ws) (hS0 : va_S A H0 H locs) (q0 : Nat) {fs : List Value} (he : ws[q0]? = some (a, .inr (ci, fs))) (k : Nat) (hk : k < N)
    (hlink : (Cond.fieldLink own index (T k).1 (T k).2.1 (T k).2.2.1).before args s = true) (hfin : (T k).2.2.2 = true) (hin2 : meth.name = "<init>") (hdecl : (T k).1 = own) {ty : FieldType} {v : Value} (hd : ty0 k = ty) (hn : narrow ty v = v) (hfit : fits ty v = true) (hl : k < fs.length) (hdg : decode cc pc = .ok (.putfield index, 3))
    (kk : ∀ (H1 : Heap) (locs1 : List Loc), va_P D vwCl (ws.set q0 (a, .inr (ci, fs.set k v))) H1 → va_S A H0 H1 locs1 → H1.size = H.size → W p l e R s m args below meth c H1 locs1 cells slots Q (F0 m (pc + 3) ls rest)) : W p l e R s m args below meth c H locs cells slots Q (F0 m pc ls (v :: .ref a :: rest)) := by
  obtain ⟨hc, hin, hty, hnm⟩ := hKl
  have hap := va_apart (own := own) hts hin ty0 hty hnm hK hc
  obtain ⟨r, h1, cell, q1, q2, q3, q4⟩ := hP q0 _ he
  have hr : r = (C, T, N) := Option.some.inj (h1.symm.trans hc)
  subst hr
  obtain ⟨hS, hfc, kC, hkC, hkind⟩ := hK.1 ci _ hc
  obtain ⟨cf, kf, fi, f, hi, hsl⟩ := hS k hk
  have hlay := hts _ (hin _ (u_in_lay hk))
  have hd2 : parseFieldDescriptor (T k).2.2.1 = some ty := by rw [hty k hk, hd]
  unfold u_lay at hlay
  rw [if_pos hfin] at hlay
  have hst := (u_facts hfc hkC (u_lays hts hin hk) hi).1
  have hcf : m.cls = cf := by
    obtain ⟨_, _, c', _, _, _, -, -, hf', -, -, -, hown2, -⟩ := Cond.laysFinal_spec hlay
    have e1 : c' = cf := by have := hi.symm.trans hf'; simp at this; exact this.1.symm
    rw [hdecl] at hown2
    rw [← e1]; exact Option.some.inj (hown.symm.trans hown2)
  have h6 := u_fits hfc hkC hkind (Or.inr hlay) hi hd2 hn hfit
  refine W.putFinK hexec hb hown hlink hi hst hcf hin2 (by rw [q2]; exact h6) q1 q3 (by rw [hsl]; exact k2_hasslot (q4 k hk)) rfl rfl hdg fun H' e1 e2 e3 => ?_
  rw [hsl] at e1 ⊢
  exact kk H' _ (hP.set hD he ⟨_, hc, t_OB.to (V := updV (vp_V fs) k v) ⟨_, e1, q2, q3, t_set q4 hap hk v⟩ (fun j _ => vp_updV_set hl v j)⟩ e3) (hS0.put e2 e3 (hD.2 q0 _ he)) e2
theorem a_putI {ob ci j i N : Nat} {tm : List Value} {Cn : String} {Tt : u_T} {ty : Nat → FieldType} {z : Int} (hd : decode cc pc = .ok (.putfield i, 3)) (hK : clK ci Cn Tt N ty) (hc : Sh[ob]? = some (.inl (ci, tm))) (hj : j < N) (ht : tm[j]? = some (.int 0)) (hf : (Tt j).2.2.2 = false) (hy : ty j = .int) (hw : Cond.fieldLink own i (Tt j).1 (Tt j).2.1 (Tt j).2.2.1 ∈ lw_good) (kk : aW G cc own mn nL ret R Q Xp k n (Sh, sU σ ob j z) L (pc + 3) st) : aW G cc own mn nL ret R Q Xp k n (Sh, σ) L pc (vI z :: .ref (gB G + ob) :: st) := by
  intro p e s m args below meth c C H locs ls hH hS hl
  have hl9 : j < tm.length := (List.getElem?_eq_some_iff.mp ht).1
  refine s_put (D := gD G) (v := vI z) C.1 C.2.1 C.2.2.2.2.2.1 hK C.2.2.2.2.1 C.2.2.2.2.2.2.2.2.1.1 hH.1 (ws_D G (Sh, σ)) hS ob (fs := tm.mapIdx (fun j t => fillV (gB G) t (σ ob j))) (ws_some (S := (Sh, σ)) (e := .inl (ci, tm)) hc) j hj (C.2.2.2.2.2.1 _ hw) hf hy rfl rfl (by simpa using hl9) hd (fun H1 locs1 hP hS1 hsz => ?_)
  refine kk p e s m args below meth c C H1 locs1 ls ⟨?_, by rw [hsz]; exact hH.2⟩ hS1 hl
  rw [← ws_set (σ := σ) hc (fun k' hk' => sU_ne hk'), fill_obj_set (σ := σ) ht (v := vI z) rfl]
  exact hP
theorem a_putIN {host : String} {ob ci j i N : Nat} {tm : List Value} {Cn : String} {Tt : u_T} {ty : Nat → FieldType} {z : Int} (hd : decode cc pc = .ok (.putfield i, 3)) (hK : clK ci Cn Tt N ty) (hc : Sh[ob]? = some (.inl (ci, tm))) (hj : j < N) (ht : tm[j]? = some (.int 0)) (hf : (Tt j).2.2.2 = false) (hy : ty j = .int) (hw : Cond.fieldLinkNest own i (Tt j).1 (Tt j).2.1 (Tt j).2.2.1 host ∈ lw_nest) (kk : aW G cc own mn nL ret R Q Xp k n (Sh, sU σ ob j z) L (pc + 3) st) : aW G cc own mn nL ret R Q Xp k n (Sh, σ) L pc (vI z :: .ref (gB G + ob) :: st) := by
  intro p e s m args below meth c C H locs ls hH hS hl
  have hl9 : j < tm.length := (List.getElem?_eq_some_iff.mp ht).1
  refine s_putN (D := gD G) (v := vI z) C.1 C.2.1 C.2.2.2.2.2.1 hK C.2.2.2.2.1 C.2.2.2.2.2.2.2.2.1.1 hH.1 (ws_D G (Sh, σ)) hS ob (fs := tm.mapIdx (fun j t => fillV (gB G) t (σ ob j))) (ws_some (S := (Sh, σ)) (e := .inl (ci, tm)) hc) j hj (va_Nw.use rfl (C.2.2.2.2.2.2.2.2.1.2.1 _ hw)) hf hy rfl rfl (by simpa using hl9) hd (fun H1 locs1 hP hS1 hsz => ?_)
  refine kk p e s m args below meth c C H1 locs1 ls ⟨?_, by rw [hsz]; exact hH.2⟩ hS1 hl
  rw [← ws_set (σ := σ) hc (fun k' hk' => sU_ne hk'), fill_obj_set (σ := σ) ht (v := vI z) rfl]
  exact hP
theorem a_putL {ob ci j i N : Nat} {tm : List Value} {Cn : String} {Tt : u_T} {ty : Nat → FieldType} {z : Int} (hd : decode cc pc = .ok (.putfield i, 3)) (hK : clK ci Cn Tt N ty) (hc : Sh[ob]? = some (.inl (ci, tm))) (hj : j < N) (ht : tm[j]? = some (.long 0)) (hf : (Tt j).2.2.2 = false) (hy : ty j = .long) (hw : Cond.fieldLink own i (Tt j).1 (Tt j).2.1 (Tt j).2.2.1 ∈ lw_good) (kk : aW G cc own mn nL ret R Q Xp k n (Sh, sU σ ob j z) L (pc + 3) st) : aW G cc own mn nL ret R Q Xp k n (Sh, σ) L pc (vL z :: .ref (gB G + ob) :: st) := by
  intro p e s m args below meth c C H locs ls hH hS hl
  have hl9 : j < tm.length := (List.getElem?_eq_some_iff.mp ht).1
  refine s_put (D := gD G) (v := vL z) C.1 C.2.1 C.2.2.2.2.2.1 hK C.2.2.2.2.1 C.2.2.2.2.2.2.2.2.1.1 hH.1 (ws_D G (Sh, σ)) hS ob (fs := tm.mapIdx (fun j t => fillV (gB G) t (σ ob j))) (ws_some (S := (Sh, σ)) (e := .inl (ci, tm)) hc) j hj (C.2.2.2.2.2.1 _ hw) hf hy rfl rfl (by simpa using hl9) hd (fun H1 locs1 hP hS1 hsz => ?_)
  refine kk p e s m args below meth c C H1 locs1 ls ⟨?_, by rw [hsz]; exact hH.2⟩ hS1 hl
  rw [← ws_set (σ := σ) hc (fun k' hk' => sU_ne hk'), fill_obj_set (σ := σ) ht (v := vL z) rfl]
  exact hP
theorem a_putLN {host : String} {ob ci j i N : Nat} {tm : List Value} {Cn : String} {Tt : u_T} {ty : Nat → FieldType} {z : Int} (hd : decode cc pc = .ok (.putfield i, 3)) (hK : clK ci Cn Tt N ty) (hc : Sh[ob]? = some (.inl (ci, tm))) (hj : j < N) (ht : tm[j]? = some (.long 0)) (hf : (Tt j).2.2.2 = false) (hy : ty j = .long) (hw : Cond.fieldLinkNest own i (Tt j).1 (Tt j).2.1 (Tt j).2.2.1 host ∈ lw_nest) (kk : aW G cc own mn nL ret R Q Xp k n (Sh, sU σ ob j z) L (pc + 3) st) : aW G cc own mn nL ret R Q Xp k n (Sh, σ) L pc (vL z :: .ref (gB G + ob) :: st) := by
  intro p e s m args below meth c C H locs ls hH hS hl
  have hl9 : j < tm.length := (List.getElem?_eq_some_iff.mp ht).1
  refine s_putN (D := gD G) (v := vL z) C.1 C.2.1 C.2.2.2.2.2.1 hK C.2.2.2.2.1 C.2.2.2.2.2.2.2.2.1.1 hH.1 (ws_D G (Sh, σ)) hS ob (fs := tm.mapIdx (fun j t => fillV (gB G) t (σ ob j))) (ws_some (S := (Sh, σ)) (e := .inl (ci, tm)) hc) j hj (va_Nw.use rfl (C.2.2.2.2.2.2.2.2.1.2.1 _ hw)) hf hy rfl rfl (by simpa using hl9) hd (fun H1 locs1 hP hS1 hsz => ?_)
  refine kk p e s m args below meth c C H1 locs1 ls ⟨?_, by rw [hsz]; exact hH.2⟩ hS1 hl
  rw [← ws_set (σ := σ) hc (fun k' hk' => sU_ne hk'), fill_obj_set (σ := σ) ht (v := vL z) rfl]
  exact hP
theorem a_putZ {ob ci j i N : Nat} {tm : List Value} {Cn : String} {Tt : u_T} {ty : Nat → FieldType} {z : Int} (hd : decode cc pc = .ok (.putfield i, 3)) (hK : clK ci Cn Tt N ty) (hc : Sh[ob]? = some (.inl (ci, tm))) (hj : j < N) (ht : tm[j]? = some (.int 0)) (hf : (Tt j).2.2.2 = false) (hy : ty j = .boolean) (hw : Cond.fieldLink own i (Tt j).1 (Tt j).2.1 (Tt j).2.2.1 ∈ lw_good) (hz : narrow .boolean (vI z) = vI z ∧ fits .boolean (vI z) = true) (kk : aW G cc own mn nL ret R Q Xp k n (Sh, sU σ ob j z) L (pc + 3) st) : aW G cc own mn nL ret R Q Xp k n (Sh, σ) L pc (vI z :: .ref (gB G + ob) :: st) := by
  intro p e s m args below meth c C H locs ls hH hS hl
  have hl9 : j < tm.length := (List.getElem?_eq_some_iff.mp ht).1
  refine s_put (D := gD G) (v := vI z) C.1 C.2.1 C.2.2.2.2.2.1 hK C.2.2.2.2.1 C.2.2.2.2.2.2.2.2.1.1 hH.1 (ws_D G (Sh, σ)) hS ob (fs := tm.mapIdx (fun j t => fillV (gB G) t (σ ob j))) (ws_some (S := (Sh, σ)) (e := .inl (ci, tm)) hc) j hj (C.2.2.2.2.2.1 _ hw) hf hy hz.1 hz.2 (by simpa using hl9) hd (fun H1 locs1 hP hS1 hsz => ?_)
  refine kk p e s m args below meth c C H1 locs1 ls ⟨?_, by rw [hsz]; exact hH.2⟩ hS1 hl
  rw [← ws_set (σ := σ) hc (fun k' hk' => sU_ne hk'), fill_obj_set (σ := σ) ht (v := vI z) rfl]
  exact hP
theorem a_putZN {host : String} {ob ci j i N : Nat} {tm : List Value} {Cn : String} {Tt : u_T} {ty : Nat → FieldType} {z : Int} (hd : decode cc pc = .ok (.putfield i, 3)) (hK : clK ci Cn Tt N ty) (hc : Sh[ob]? = some (.inl (ci, tm))) (hj : j < N) (ht : tm[j]? = some (.int 0)) (hf : (Tt j).2.2.2 = false) (hy : ty j = .boolean) (hw : Cond.fieldLinkNest own i (Tt j).1 (Tt j).2.1 (Tt j).2.2.1 host ∈ lw_nest) (hz : narrow .boolean (vI z) = vI z ∧ fits .boolean (vI z) = true) (kk : aW G cc own mn nL ret R Q Xp k n (Sh, sU σ ob j z) L (pc + 3) st) : aW G cc own mn nL ret R Q Xp k n (Sh, σ) L pc (vI z :: .ref (gB G + ob) :: st) := by
  intro p e s m args below meth c C H locs ls hH hS hl
  have hl9 : j < tm.length := (List.getElem?_eq_some_iff.mp ht).1
  refine s_putN (D := gD G) (v := vI z) C.1 C.2.1 C.2.2.2.2.2.1 hK C.2.2.2.2.1 C.2.2.2.2.2.2.2.2.1.1 hH.1 (ws_D G (Sh, σ)) hS ob (fs := tm.mapIdx (fun j t => fillV (gB G) t (σ ob j))) (ws_some (S := (Sh, σ)) (e := .inl (ci, tm)) hc) j hj (va_Nw.use rfl (C.2.2.2.2.2.2.2.2.1.2.1 _ hw)) hf hy hz.1 hz.2 (by simpa using hl9) hd (fun H1 locs1 hP hS1 hsz => ?_)
  refine kk p e s m args below meth c C H1 locs1 ls ⟨?_, by rw [hsz]; exact hH.2⟩ hS1 hl
  rw [← ws_set (σ := σ) hc (fun k' hk' => sU_ne hk'), fill_obj_set (σ := σ) ht (v := vI z) rfl]
  exact hP
theorem a_iald {ar len : Nat} {g : Nat → Option Nat} {x x' : Int} (hd : decode cc pc = .ok (.iaload, 1)) (hc : S.1[ar]? = some (.inr (.int, len, g))) (hx : wi x = x') (hb : 0 ≤ x' ∧ x' < (len : Int)) (kk : aW G cc own mn nL ret R Q Xp k n S L (pc + 1) (vI (S.2 ar x'.toNat) :: st)) : aW G cc own mn nL ret R Q Xp k n S L pc (vI x :: .ref (gB G + ar) :: st) := by
  intro p e s m args below meth c C H locs ls hH hS hl
  exact va_iald C.1 C.2.1 C.2.2.2.2.2.2.2.2.1.1 hH.1 ar 0 (ws_some hc) rfl (vp_in_iff.mpr (by show 0 ≤ wi x ∧ wi x < (len : Int); rw [hx]; exact hb)) hd (by rw [oi_cl, hx]; exact (kk p e s m args below meth c C H locs ls hH hS hl))
theorem a_bald {ar len : Nat} {g : Nat → Option Nat} {x x' : Int} (hd : decode cc pc = .ok (.baload, 1)) (hc : S.1[ar]? = some (.inr (.byte, len, g))) (hx : wi x = x') (hb : 0 ≤ x' ∧ x' < (len : Int)) (kk : aW G cc own mn nL ret R Q Xp k n S L (pc + 1) (vI (S.2 ar x'.toNat) :: st)) : aW G cc own mn nL ret R Q Xp k n S L pc (vI x :: .ref (gB G + ar) :: st) := by
  intro p e s m args below meth c C H locs ls hH hS hl
  exact va_bald C.1 C.2.1 C.2.2.2.2.2.2.2.2.1.1 hH.1 ar 1 (ws_some hc) rfl (vp_in_iff.mpr (by show 0 ≤ wi x ∧ wi x < (len : Int); rw [hx]; exact hb)) hd (by rw [oi_cl, hx]; exact (kk p e s m args below meth c C H locs ls hH hS hl))
theorem a_zald {ar len : Nat} {g : Nat → Option Nat} {x x' : Int} (hd : decode cc pc = .ok (.baload, 1)) (hc : S.1[ar]? = some (.inr (.boolean, len, g))) (hx : wi x = x') (hb : 0 ≤ x' ∧ x' < (len : Int)) (kk : aW G cc own mn nL ret R Q Xp k n S L (pc + 1) (vI (S.2 ar x'.toNat) :: st)) : aW G cc own mn nL ret R Q Xp k n S L pc (vI x :: .ref (gB G + ar) :: st) := by
  intro p e s m args below meth c C H locs ls hH hS hl
  exact va_zald C.1 C.2.1 C.2.2.2.2.2.2.2.2.1.1 hH.1 ar 2 (ws_some hc) rfl (vp_in_iff.mpr (by show 0 ≤ wi x ∧ wi x < (len : Int); rw [hx]; exact hb)) hd (by rw [oi_cl, hx]; exact (kk p e s m args below meth c C H locs ls hH hS hl))
theorem a_lald {ar len : Nat} {g : Nat → Option Nat} {x x' : Int} (hd : decode cc pc = .ok (.laload, 1)) (hc : S.1[ar]? = some (.inr (.long, len, g))) (hx : wi x = x') (hb : 0 ≤ x' ∧ x' < (len : Int)) (kk : aW G cc own mn nL ret R Q Xp k n S L (pc + 1) (vL (S.2 ar x'.toNat) :: st)) : aW G cc own mn nL ret R Q Xp k n S L pc (vI x :: .ref (gB G + ar) :: st) := by
  intro p e s m args below meth c C H locs ls hH hS hl
  exact va_lald C.1 C.2.1 C.2.2.2.2.2.2.2.2.1.1 hH.1 ar 3 (ws_some hc) rfl (vp_in_iff.mpr (by show 0 ≤ wi x ∧ wi x < (len : Int); rw [hx]; exact hb)) hd (by rw [oi_cl, hx]; exact (kk p e s m args below meth c C H locs ls hH hS hl))
theorem a_iast {ar len : Nat} {g : Nat → Option Nat} {x x' z : Int} (hd : decode cc pc = .ok (.iastore, 1)) (hc : Sh[ar]? = some (.inr (.int, len, g))) (hx : wi x = x') (hb : 0 ≤ x' ∧ x' < (len : Int)) (kk : aW G cc own mn nL ret R Q Xp k n (Sh, sU σ ar x'.toNat (z)) L (pc + 1) st) : aW G cc own mn nL ret R Q Xp k n (Sh, σ) L pc (vI z :: vI x :: .ref (gB G + ar) :: st) := by
  intro p e s m args below meth c C H locs ls hH hS hl
  have hcell := hH.1 ar _ (ws_some hc)
  refine W.iast C.1 C.2.1 (cell := vp_cell (gA G .int) (len, .inl (fun j => Int32.ofInt (σ ar j)))) hcell ((C.2.2.2.2.2.2.2.2.1.1.2 0 _ rfl).1 len (fun j => .int (Int32.ofInt (σ ar j)))) (fun q => by cases q) (by show ¬ (_ ∨ (arrV _ _ _).slots.size ≤ _); rw [arrV_size]; exact vp_in_iff.mpr (by show 0 ≤ wi x ∧ wi x < (len : Int); rw [hx]; exact hb)) rfl rfl hd (fun H1 e1 z1 o1 => ?_)
  have hset : H1[gB G + ar]? = some (vp_cell (gA G .int) (len, .inl (fun j => Int32.ofInt (sU σ ar x'.toNat (z) ar j)))) := by
    rw [e1, oi_cl, hx, vp_cell_i, vp_cell_i, arrV_store]
    congr 2
    funext q
    unfold updV sU
    by_cases hq : q = x'.toNat
    · rw [if_pos hq, if_pos ⟨rfl, hq⟩]
    · rw [if_neg hq, if_neg (fun z9 => hq z9.2)]
  refine kk p e s m args below meth c C H1 _ ls ⟨?_, by rw [z1]; exact hH.2⟩ (va_S.put hS z1 o1 (Nat.le_add_right _ _)) hl
  rw [← ws_set (σ := σ) hc (fun k' hk' => sU_ne hk')]
  exact va_P.set hH.1 (ws_D G (Sh, σ)) (ws_some hc) hset o1
theorem a_bast {ar len : Nat} {g : Nat → Option Nat} {x x' z : Int} (hd : decode cc pc = .ok (.bastore, 1)) (hc : Sh[ar]? = some (.inr (.byte, len, g))) (hx : wi x = x') (hb : 0 ≤ x' ∧ x' < (len : Int)) (kk : aW G cc own mn nL ret R Q Xp k n (Sh, sU σ ar x'.toNat (q_b z)) L (pc + 1) st) : aW G cc own mn nL ret R Q Xp k n (Sh, σ) L pc (vI z :: vI x :: .ref (gB G + ar) :: st) := by
  intro p e s m args below meth c C H locs ls hH hS hl
  have hcell := hH.1 ar _ (ws_some hc)
  refine W.bast C.1 C.2.1 (cell := vp_cell (gA G .byte) (len, .inl (fun j => Int32.ofInt (σ ar j)))) hcell ((C.2.2.2.2.2.2.2.2.1.1.2 1 _ rfl).1 len (fun j => .int (Int32.ofInt (σ ar j)))) (fun q => by cases q) (by show ¬ (_ ∨ (arrV _ _ _).slots.size ≤ _); rw [arrV_size]; exact vp_in_iff.mpr (by show 0 ≤ wi x ∧ wi x < (len : Int); rw [hx]; exact hb)) rfl rfl hd (fun H1 e1 z1 o1 => ?_)
  have hset : H1[gB G + ar]? = some (vp_cell (gA G .byte) (len, .inl (fun j => Int32.ofInt (sU σ ar x'.toNat (q_b z) ar j)))) := by
    rw [e1, oi_cl, hx, vp_cell_i, vp_cell_i, arrV_store]
    congr 2
    funext q
    unfold updV sU
    by_cases hq : q = x'.toNat
    · rw [if_pos hq, if_pos ⟨rfl, hq⟩]; exact q_b_n z
    · rw [if_neg hq, if_neg (fun z9 => hq z9.2)]
  refine kk p e s m args below meth c C H1 _ ls ⟨?_, by rw [z1]; exact hH.2⟩ (va_S.put hS z1 o1 (Nat.le_add_right _ _)) hl
  rw [← ws_set (σ := σ) hc (fun k' hk' => sU_ne hk')]
  exact va_P.set hH.1 (ws_D G (Sh, σ)) (ws_some hc) hset o1
theorem a_zast {ar len : Nat} {g : Nat → Option Nat} {x x' z : Int} (hd : decode cc pc = .ok (.bastore, 1)) (hc : Sh[ar]? = some (.inr (.boolean, len, g))) (hx : wi x = x') (hb : 0 ≤ x' ∧ x' < (len : Int)) (kk : aW G cc own mn nL ret R Q Xp k n (Sh, sU σ ar x'.toNat (q_z z)) L (pc + 1) st) : aW G cc own mn nL ret R Q Xp k n (Sh, σ) L pc (vI z :: vI x :: .ref (gB G + ar) :: st) := by
  intro p e s m args below meth c C H locs ls hH hS hl
  have hcell := hH.1 ar _ (ws_some hc)
  refine W.zast C.1 C.2.1 (cell := vp_cell (gA G .boolean) (len, .inl (fun j => Int32.ofInt (σ ar j)))) hcell ((C.2.2.2.2.2.2.2.2.1.1.2 2 _ rfl).1 len (fun j => .int (Int32.ofInt (σ ar j)))) (fun q => by cases q) (by show ¬ (_ ∨ (arrV _ _ _).slots.size ≤ _); rw [arrV_size]; exact vp_in_iff.mpr (by show 0 ≤ wi x ∧ wi x < (len : Int); rw [hx]; exact hb)) rfl rfl hd (fun H1 e1 z1 o1 => ?_)
  have hset : H1[gB G + ar]? = some (vp_cell (gA G .boolean) (len, .inl (fun j => Int32.ofInt (sU σ ar x'.toNat (q_z z) ar j)))) := by
    rw [e1, oi_cl, hx, vp_cell_i, vp_cell_i, arrV_store]
    congr 2
    funext q
    unfold updV sU
    by_cases hq : q = x'.toNat
    · rw [if_pos hq, if_pos ⟨rfl, hq⟩]; exact q_z_n z
    · rw [if_neg hq, if_neg (fun z9 => hq z9.2)]
  refine kk p e s m args below meth c C H1 _ ls ⟨?_, by rw [z1]; exact hH.2⟩ (va_S.put hS z1 o1 (Nat.le_add_right _ _)) hl
  rw [← ws_set (σ := σ) hc (fun k' hk' => sU_ne hk')]
  exact va_P.set hH.1 (ws_D G (Sh, σ)) (ws_some hc) hset o1
theorem a_last {ar len : Nat} {g : Nat → Option Nat} {x x' z : Int} (hd : decode cc pc = .ok (.lastore, 1)) (hc : Sh[ar]? = some (.inr (.long, len, g))) (hx : wi x = x') (hb : 0 ≤ x' ∧ x' < (len : Int)) (kk : aW G cc own mn nL ret R Q Xp k n (Sh, sU σ ar x'.toNat (z)) L (pc + 1) st) : aW G cc own mn nL ret R Q Xp k n (Sh, σ) L pc (vL z :: vI x :: .ref (gB G + ar) :: st) := by
  intro p e s m args below meth c C H locs ls hH hS hl
  have hcell := hH.1 ar _ (ws_some hc)
  refine W.last C.1 C.2.1 (cell := vp_cell (gA G .long) (len, .inr (.inl (fun j => Int64.ofInt (σ ar j))))) hcell ((C.2.2.2.2.2.2.2.2.1.1.2 3 _ rfl).1 len (fun j => .long (Int64.ofInt (σ ar j)))) (fun q => by cases q) (by show ¬ (_ ∨ (arrV _ _ _).slots.size ≤ _); rw [arrV_size]; exact vp_in_iff.mpr (by show 0 ≤ wi x ∧ wi x < (len : Int); rw [hx]; exact hb)) rfl rfl hd (fun H1 e1 z1 o1 => ?_)
  have hset : H1[gB G + ar]? = some (vp_cell (gA G .long) (len, .inr (.inl (fun j => Int64.ofInt (sU σ ar x'.toNat (z) ar j))))) := by
    rw [e1, oi_cl, hx, vp_cell_l, vp_cell_l, arrV_store]
    congr 2
    funext q
    unfold updV sU
    by_cases hq : q = x'.toNat
    · rw [if_pos hq, if_pos ⟨rfl, hq⟩]
    · rw [if_neg hq, if_neg (fun z9 => hq z9.2)]
  refine kk p e s m args below meth c C H1 _ ls ⟨?_, by rw [z1]; exact hH.2⟩ (va_S.put hS z1 o1 (Nat.le_add_right _ _)) hl
  rw [← ws_set (σ := σ) hc (fun k' hk' => sU_ne hk')]
  exact va_P.set hH.1 (ws_D G (Sh, σ)) (ws_some hc) hset o1
theorem a_alen {ar len : Nat} {g : Nat → Option Nat} (hd : decode cc pc = .ok (.arraylength, 1)) (hc : S.1[ar]? = some (.inr (.int, len, g))) (kk : aW G cc own mn nL ret R Q Xp k n S L (pc + 1) (vI (len : Int) :: st)) : aW G cc own mn nL ret R Q Xp k n S L pc (.ref (gB G + ar) :: st) := by
  intro p e s m args below meth c C H locs ls hH hS hl
  exact va_alen C.1 C.2.1 C.2.2.2.2.2.2.2.2.1.1 hH.1 ar 0 (ws_some hc) rfl (v := Int32.ofInt (len : Int)) rfl hd (kk p e s m args below meth c C H locs ls hH hS hl)
theorem a_alenB {ar len : Nat} {g : Nat → Option Nat} (hd : decode cc pc = .ok (.arraylength, 1)) (hc : S.1[ar]? = some (.inr (.byte, len, g))) (kk : aW G cc own mn nL ret R Q Xp k n S L (pc + 1) (vI (len : Int) :: st)) : aW G cc own mn nL ret R Q Xp k n S L pc (.ref (gB G + ar) :: st) := by
  intro p e s m args below meth c C H locs ls hH hS hl
  exact va_alen C.1 C.2.1 C.2.2.2.2.2.2.2.2.1.1 hH.1 ar 1 (ws_some hc) rfl (v := Int32.ofInt (len : Int)) rfl hd (kk p e s m args below meth c C H locs ls hH hS hl)
theorem a_alenL {ar len : Nat} {g : Nat → Option Nat} (hd : decode cc pc = .ok (.arraylength, 1)) (hc : S.1[ar]? = some (.inr (.long, len, g))) (kk : aW G cc own mn nL ret R Q Xp k n S L (pc + 1) (vI (len : Int) :: st)) : aW G cc own mn nL ret R Q Xp k n S L pc (.ref (gB G + ar) :: st) := by
  intro p e s m args below meth c C H locs ls hH hS hl
  exact va_alen C.1 C.2.1 C.2.2.2.2.2.2.2.2.1.1 hH.1 ar 3 (ws_some hc) rfl (v := Int32.ofInt (len : Int)) rfl hd (kk p e s m args below meth c C H locs ls hH hS hl)
theorem a_aald {ar len r : Nat} {g : Nat → Option Nat} {x x' : Int} (hd : decode cc pc = .ok (.aaload, 1)) (hc : S.1[ar]? = some (.inr (.array .int, len, g))) (hx : wi x = x') (hb : 0 ≤ x' ∧ x' < (len : Int)) (hg : g x'.toNat = some r) (kk : aW G cc own mn nL ret R Q Xp k n S L (pc + 1) (.ref (gB G + r) :: st)) : aW G cc own mn nL ret R Q Xp k n S L pc (vI x :: .ref (gB G + ar) :: st) := by
  intro p e s m args below meth c C H locs ls hH hS hl
  have hin : vp_in (Int32.ofInt x) len := vp_in_iff.mpr (by show 0 ≤ wi x ∧ wi x < (len : Int); rw [hx]; exact hb)
  have hlt : (Int32.ofInt x).toNatClampNeg < len := Nat.not_le.mp fun q => hin (Or.inr q)
  refine W.aald (v := .ref (gB G + r)) (ty := .array .int) C.1 C.2.1 (hH.1 ar _ (ws_some hc)) ((C.2.2.2.2.2.2.2.2.1.1.2 4 _ rfl).1 len (fun j => va_rf ((g j).map (fun a => gB G + a)))) rfl (fun q => by cases q) (by show ¬ (_ ∨ (arrV _ _ _).slots.size ≤ _); rw [arrV_size]; exact hin) (by show (arrV _ _ _).slots[_]? = _; rw [arrV_read _ _ hlt, oi_cl, hx]; show some (va_rf ((g x'.toNat).map (fun a => gB G + a))) = _; rw [hg]; rfl) rfl rfl hd (kk p e s m args below meth c C H locs ls hH hS hl)
theorem a_iret {d mc ms : Nat} {r z : Int} {S' : sS} (hd : decode cc pc = .ok (.ireturn, 1)) (hr : ret = some .int) (hz : z = r) (hs : S = S') : aW G cc own mn nL ret (sR d mc ms) (aQ G ret mc ms (r, S')) Xp mc ms S L pc [vI z] := by
  intro p e s m args below meth c C H locs ls hH hS hl
  subst hz; subst hs; subst hr
  exact W.iret (v := _) C.1 C.2.1 C.2.2.1 (fun t ht hW => ⟨⟨rfl, by rw [ht]; exact hH⟩, hS.F ht⟩) hS.2.2 hd C.2.2.2.2.2.2.1
theorem a_lret {d mc ms : Nat} {r z : Int} {S' : sS} (hd : decode cc pc = .ok (.lreturn, 1)) (hr : ret = some .long) (hz : z = r) (hs : S = S') : aW G cc own mn nL ret (sR d mc ms) (aQ G ret mc ms (r, S')) Xp mc ms S L pc [vL z] := by
  intro p e s m args below meth c C H locs ls hH hS hl
  subst hz; subst hs; subst hr
  exact W.lret (v := _) C.1 C.2.1 C.2.2.1 (fun t ht hW => ⟨⟨rfl, by rw [ht]; exact hH⟩, hS.F ht⟩) hS.2.2 hd C.2.2.2.2.2.2.1
theorem a_zret {d mc ms : Nat} {r z : Int} {S' : sS} (hd : decode cc pc = .ok (.ireturn, 1)) (hr : ret = some .boolean) (hn : narrow .boolean (vI z) = vI z) (hz : z = r) (hs : S = S') : aW G cc own mn nL ret (sR d mc ms) (aQ G ret mc ms (r, S')) Xp mc ms S L pc [vI z] := by
  intro p e s m args below meth c C H locs ls hH hS hl
  subst hz; subst hs; subst hr
  exact W.zret (v := _) (ty := .boolean) C.1 C.2.1 C.2.2.1 hn (fun t ht hW => ⟨⟨rfl, by rw [ht]; exact hH⟩, hS.F ht⟩) hS.2.2 hd C.2.2.2.2.2.2.1
theorem a_vret {d mc ms : Nat} {r : Int} {S' : sS} (hd : decode cc pc = .ok (.return_, 1)) (hr : ret = none) (hs : S = S') : aW G cc own mn nL ret (sR d mc ms) (aQ G ret mc ms (r, S')) Xp mc ms S L pc [] := by
  intro p e s m args below meth c C H locs ls hH hS hl
  subst hs; subst hr
  exact W.vret C.1 C.2.1 C.2.2.1 (fun t ht hW => ⟨⟨rfl, by rw [ht]; exact hH⟩, hS.F ht⟩) hS.2.2 hd C.2.2.2.2.2.2.1
theorem a_aret {d mc ms a : Nat} {r : Int} {S' : sS} {nm : String} (hd : decode cc pc = .ok (.areturn, 1)) (hr : ret = some (.object nm)) (hz : a = r.toNat) (hs : S = S') : aW G cc own mn nL ret (sR d mc ms) (aQ G ret mc ms (r, S')) Xp mc ms S L pc [.ref (gB G + a)] := by
  intro p e s m args below meth c C H locs ls hH hS hl
  subst hz; subst hs; subst hr
  exact W.aret C.1 C.2.1 C.2.2.1 (Or.inl ⟨_, rfl⟩) (Or.inr ⟨_, rfl⟩) (fun t ht hW => ⟨⟨rfl, by rw [ht]; exact hH⟩, hS.F ht⟩) hS.2.2 hd C.2.2.2.2.2.2.1
theorem s_after {p : Program} {l : Launch} {e : Env} {R : Room} {s : State} {m : MethodId} {args : Array Value} {below : List Frame} {meth : Method} {c : Code} {H : Heap} {locs : List Loc} {cells slots mc ms : Nat} {Q : State → Prop} {pc : Nat} {ls : Array Slot} {rest st0 : List Value} {G : sG} {ret : Option FieldType} {fin : Int × sS} {a : Array Value}
    (hr : va_Run p l e R s m args below meth c H locs cells slots mc ms (F0 m pc ls st0) rest (sQ G ret fin a) (sA G)) (hS : va_S (sA G) s.heap H locs)
    (kk : ∀ (H1 : Heap) (locs1 : List Loc), sH G fin.2 H1 → va_S (sA G) s.heap H1 locs1 → W p l e R s m args below meth c H1 locs1 (cells + mc) (slots + ms) Q (F0 m (pc + 3) ls ((sRV G ret fin.1).toList ++ rest))) : W p l e R s m args below meth c H locs cells slots Q (F0 m pc ls st0) := by
  intro T hT X
  obtain ⟨v, st₀, t, T', L, h0, X', hL, e1, e2, ⟨⟨hv, hp⟩, hz, hk⟩, st⟩ := hr T hT X
  cases hv
  rw [h0] at hz hk
  obtain ⟨t2, a1, b1⟩ := kk T'.heap (locs ++ L) (by rw [e1]; exact hp) ⟨Nat.le_trans hS.1 (by rw [e1]; exact hz), fun q h1 h2 => by rw [e1, hk q (Nat.lt_of_lt_of_le h1 hS.1) h2]; exact hS.2.1 q h1 h2, fun q hq => by
      rcases List.mem_append.mp hq with h | h
      · exact hS.2.2 q h
      · exact hL q h⟩ T' rfl X'
  exact ⟨t2, st t2 a1, b1⟩
theorem s_pre {G : sG} {S : sS} {s : State} {H : Heap} {locs : List Loc} {av : List Value} (hX : sX G s) (hV : sV G s) (hH : sH G S H) (hS : va_S (sA G) s.heap H locs) : PreS s H (va_Pc av (sHU G S)) av := by
  refine ⟨fun a U g mk q => ?_, fun U hU hW => ⟨rfl, hX.warm hW, ?_, by rw [hU]; exact hH⟩⟩
  · obtain ⟨q0, q1, q2, q3⟩ := q
    exact ⟨q0, sX.same (s := U) rfl q1, vk_S.moved (u := U) (U := U.calling g mk a) (Vm.Alike.refl U.vm) q2, q3⟩
  · show vk_S 9 strL strB (gK G) (gV G) (sA G) U U.heap
    rw [hU]
    exact vk_S.kept (vk_S.moved hW.alike hV) hS.2.1
def mtK (y : MethodName) (cc : ByteArray) (nL : Nat) (ret : Option FieldType) (na : Nat) : Prop := Cond.code y cc nL ret ∈ lw_good ∧ Cond.initialized y.cls ∈ lw_good ∧ (y.cls ≠ "java/lang/invoke/MethodHandle" ∧ y.cls ≠ "java/lang/invoke/VarHandle" ∧ (parseMethodDescriptor y.desc).map (fun d => d.parameters.length) = some na) ∧ nL ≤ 60
theorem mt_good {y : MethodName} {cc : ByteArray} {nL : Nat} {ret : Option FieldType} (h : Cond.code y cc nL ret ∈ lw_good) : GoodIn lw_good (Cond.code y cc nL ret :: lw_good) := by
  intro w hw
  have hm : w ∈ lw_good := by
    rcases List.mem_cons.mp hw with rfl | h9
    · exact h
    · exact h9
  exact ⟨hm, good_of_word (List.mem_filter.mp hm).2⟩
theorem a_callVI {ob ci i na nL' d' mc' ms' N : Nat} {tm As st0 : List Value} {y : MethodName} {cc' : ByteArray} {ret' : Option FieldType} {fn : Int × sS} {Tt : u_T} {Cn : String} {ty : Nat → FieldType} (hd : decode cc pc = .ok (.invokevirtual i, 3)) (hm : mtK y cc' nL' ret' na) (hk : clK ci Cn Tt N ty) (hcn : y.cls = Cn) (hi : Cond.instanceMethod y ∈ lw_good) (hse : Cond.selects Cn y y ∈ lw_good) (hc : S.1[ob]? = some (.inl (ci, tm))) (hw : Cond.methodLink own i y ∈ lw_good) (hn : As.length = na) (hM : aM G y cc' nL' ret' d' mc' ms' (.ref (gB G + ob) :: As) S fn) (hrv : ∀ r, sRV G ret' r = some (vI r)) (hst : As.reverse ++ .ref (gB G + ob) :: st = st0) (hfr : d' + 1 ≤ R.frames) (hlo : 80 * d' + 79 ≤ R.locals) (hrm : k + mc' ≤ R.cells ∧ n + ms' ≤ R.slots) (hcat : (st.map fun v => v.category).sum ≤ 8) (kk : aW G cc own mn nL ret R Q Xp (k + mc') (n + ms') fn.2 L (pc + 3) (vI fn.1 :: st)) : aW G cc own mn nL ret R Q Xp k n S L pc st0 := by
  intro p e s m args below meth c C H locs ls hH hS hl
  subst hst
  obtain ⟨m1, m2, m3, m4⟩ := hm
  have hpre := s_pre (av := (.ref (gB G + ob) :: As)) C.2.2.2.2.2.2.2.2.1 C.2.2.2.2.2.2.2.2.2.1 hH hS
  refine s_after (va_runV (C := Cn) (As := As) (rest := st) ⟨C.1, C.2.1, C.2.2.2.1, C.2.2.2.2.1, C.2.2.2.2.2.1⟩ hM ⟨(callB_of (rm := sR d' mc' ms') na C.2.2.2.2.2.1 (mt_good m1) rfl rfl rfl (C.2.2.2.2.2.1 _ m2) (C.2.2.2.2.2.1 _ hw) m3 ⟨hfr, by show 8 + (nL' + 11) + 80 * d' ≤ R.locals; omega⟩), C.2.2.2.2.2.1 _ hi, C.2.2.2.2.2.1 _ hse⟩ ⟨hpre.1, va_recv C.2.2.2.2.2.2.2.2.1.1 hH.1 hk.1 (ws_some hc), hpre.2⟩ rfl hn hl.1 rfl (lv_room hcat) hd hrm) hS (fun H1 locs1 h1 h2 => ?_)
  rw [hrv] ; exact kk p e s m args below meth c C H1 locs1 ls h1 h2 hl
theorem a_callVL {ob ci i na nL' d' mc' ms' N : Nat} {tm As st0 : List Value} {y : MethodName} {cc' : ByteArray} {ret' : Option FieldType} {fn : Int × sS} {Tt : u_T} {Cn : String} {ty : Nat → FieldType} (hd : decode cc pc = .ok (.invokevirtual i, 3)) (hm : mtK y cc' nL' ret' na) (hk : clK ci Cn Tt N ty) (hcn : y.cls = Cn) (hi : Cond.instanceMethod y ∈ lw_good) (hse : Cond.selects Cn y y ∈ lw_good) (hc : S.1[ob]? = some (.inl (ci, tm))) (hw : Cond.methodLink own i y ∈ lw_good) (hn : As.length = na) (hM : aM G y cc' nL' ret' d' mc' ms' (.ref (gB G + ob) :: As) S fn) (hrv : ∀ r, sRV G ret' r = some (vL r)) (hst : As.reverse ++ .ref (gB G + ob) :: st = st0) (hfr : d' + 1 ≤ R.frames) (hlo : 80 * d' + 79 ≤ R.locals) (hrm : k + mc' ≤ R.cells ∧ n + ms' ≤ R.slots) (hcat : (st.map fun v => v.category).sum ≤ 8) (kk : aW G cc own mn nL ret R Q Xp (k + mc') (n + ms') fn.2 L (pc + 3) (vL fn.1 :: st)) : aW G cc own mn nL ret R Q Xp k n S L pc st0 := by
  intro p e s m args below meth c C H locs ls hH hS hl
  subst hst
  obtain ⟨m1, m2, m3, m4⟩ := hm
  have hpre := s_pre (av := (.ref (gB G + ob) :: As)) C.2.2.2.2.2.2.2.2.1 C.2.2.2.2.2.2.2.2.2.1 hH hS
  refine s_after (va_runV (C := Cn) (As := As) (rest := st) ⟨C.1, C.2.1, C.2.2.2.1, C.2.2.2.2.1, C.2.2.2.2.2.1⟩ hM ⟨(callB_of (rm := sR d' mc' ms') na C.2.2.2.2.2.1 (mt_good m1) rfl rfl rfl (C.2.2.2.2.2.1 _ m2) (C.2.2.2.2.2.1 _ hw) m3 ⟨hfr, by show 8 + (nL' + 11) + 80 * d' ≤ R.locals; omega⟩), C.2.2.2.2.2.1 _ hi, C.2.2.2.2.2.1 _ hse⟩ ⟨hpre.1, va_recv C.2.2.2.2.2.2.2.2.1.1 hH.1 hk.1 (ws_some hc), hpre.2⟩ rfl hn hl.1 rfl (lv_room hcat) hd hrm) hS (fun H1 locs1 h1 h2 => ?_)
  rw [hrv] ; exact kk p e s m args below meth c C H1 locs1 ls h1 h2 hl
theorem a_callVR {ob ci i na nL' d' mc' ms' N : Nat} {tm As st0 : List Value} {y : MethodName} {cc' : ByteArray} {ret' : Option FieldType} {fn : Int × sS} {Tt : u_T} {Cn : String} {ty : Nat → FieldType} (hd : decode cc pc = .ok (.invokevirtual i, 3)) (hm : mtK y cc' nL' ret' na) (hk : clK ci Cn Tt N ty) (hcn : y.cls = Cn) (hi : Cond.instanceMethod y ∈ lw_good) (hse : Cond.selects Cn y y ∈ lw_good) (hc : S.1[ob]? = some (.inl (ci, tm))) (hw : Cond.methodLink own i y ∈ lw_good) (hn : As.length = na) (hM : aM G y cc' nL' ret' d' mc' ms' (.ref (gB G + ob) :: As) S fn) (hrv : ∀ r, sRV G ret' r = some (.ref (gB G + r.toNat))) (hst : As.reverse ++ .ref (gB G + ob) :: st = st0) (hfr : d' + 1 ≤ R.frames) (hlo : 80 * d' + 79 ≤ R.locals) (hrm : k + mc' ≤ R.cells ∧ n + ms' ≤ R.slots) (hcat : (st.map fun v => v.category).sum ≤ 8) (kk : aW G cc own mn nL ret R Q Xp (k + mc') (n + ms') fn.2 L (pc + 3) (.ref (gB G + fn.1.toNat) :: st)) : aW G cc own mn nL ret R Q Xp k n S L pc st0 := by
  intro p e s m args below meth c C H locs ls hH hS hl
  subst hst
  obtain ⟨m1, m2, m3, m4⟩ := hm
  have hpre := s_pre (av := (.ref (gB G + ob) :: As)) C.2.2.2.2.2.2.2.2.1 C.2.2.2.2.2.2.2.2.2.1 hH hS
  refine s_after (va_runV (C := Cn) (As := As) (rest := st) ⟨C.1, C.2.1, C.2.2.2.1, C.2.2.2.2.1, C.2.2.2.2.2.1⟩ hM ⟨(callB_of (rm := sR d' mc' ms') na C.2.2.2.2.2.1 (mt_good m1) rfl rfl rfl (C.2.2.2.2.2.1 _ m2) (C.2.2.2.2.2.1 _ hw) m3 ⟨hfr, by show 8 + (nL' + 11) + 80 * d' ≤ R.locals; omega⟩), C.2.2.2.2.2.1 _ hi, C.2.2.2.2.2.1 _ hse⟩ ⟨hpre.1, va_recv C.2.2.2.2.2.2.2.2.1.1 hH.1 hk.1 (ws_some hc), hpre.2⟩ rfl hn hl.1 rfl (lv_room hcat) hd hrm) hS (fun H1 locs1 h1 h2 => ?_)
  rw [hrv] ; exact kk p e s m args below meth c C H1 locs1 ls h1 h2 hl
theorem a_callVV {ob ci i na nL' d' mc' ms' N : Nat} {tm As st0 : List Value} {y : MethodName} {cc' : ByteArray} {ret' : Option FieldType} {fn : Int × sS} {Tt : u_T} {Cn : String} {ty : Nat → FieldType} (hd : decode cc pc = .ok (.invokevirtual i, 3)) (hm : mtK y cc' nL' ret' na) (hk : clK ci Cn Tt N ty) (hcn : y.cls = Cn) (hi : Cond.instanceMethod y ∈ lw_good) (hse : Cond.selects Cn y y ∈ lw_good) (hc : S.1[ob]? = some (.inl (ci, tm))) (hw : Cond.methodLink own i y ∈ lw_good) (hn : As.length = na) (hM : aM G y cc' nL' ret' d' mc' ms' (.ref (gB G + ob) :: As) S fn) (hrv : ∀ r, sRV G ret' r = none) (hst : As.reverse ++ .ref (gB G + ob) :: st = st0) (hfr : d' + 1 ≤ R.frames) (hlo : 80 * d' + 79 ≤ R.locals) (hrm : k + mc' ≤ R.cells ∧ n + ms' ≤ R.slots) (hcat : (st.map fun v => v.category).sum ≤ 8) (kk : aW G cc own mn nL ret R Q Xp (k + mc') (n + ms') fn.2 L (pc + 3) st) : aW G cc own mn nL ret R Q Xp k n S L pc st0 := by
  intro p e s m args below meth c C H locs ls hH hS hl
  subst hst
  obtain ⟨m1, m2, m3, m4⟩ := hm
  have hpre := s_pre (av := (.ref (gB G + ob) :: As)) C.2.2.2.2.2.2.2.2.1 C.2.2.2.2.2.2.2.2.2.1 hH hS
  refine s_after (va_runV (C := Cn) (As := As) (rest := st) ⟨C.1, C.2.1, C.2.2.2.1, C.2.2.2.2.1, C.2.2.2.2.2.1⟩ hM ⟨(callB_of (rm := sR d' mc' ms') na C.2.2.2.2.2.1 (mt_good m1) rfl rfl rfl (C.2.2.2.2.2.1 _ m2) (C.2.2.2.2.2.1 _ hw) m3 ⟨hfr, by show 8 + (nL' + 11) + 80 * d' ≤ R.locals; omega⟩), C.2.2.2.2.2.1 _ hi, C.2.2.2.2.2.1 _ hse⟩ ⟨hpre.1, va_recv C.2.2.2.2.2.2.2.2.1.1 hH.1 hk.1 (ws_some hc), hpre.2⟩ rfl hn hl.1 rfl (lv_room hcat) hd hrm) hS (fun H1 locs1 h1 h2 => ?_)
  rw [hrv] ; exact kk p e s m args below meth c C H1 locs1 ls h1 h2 hl
theorem a_callSI {ob ci i na nL' d' mc' ms' N : Nat} {tm As st0 : List Value} {y : MethodName} {cc' : ByteArray} {ret' : Option FieldType} {fn : Int × sS} {Tt : u_T} {Cn : String} {ty : Nat → FieldType} (hd : decode cc pc = .ok (.invokestatic i, 3)) (hm : mtK y cc' nL' ret' na) (hi : Cond.static y ∈ lw_good) (hw : Cond.methodLink own i y ∈ lw_good) (hn : As.length = na) (hM : aM G y cc' nL' ret' d' mc' ms' As S fn) (hrv : ∀ r, sRV G ret' r = some (vI r)) (hst : As.reverse ++ st = st0) (hfr : d' + 1 ≤ R.frames) (hlo : 80 * d' + 79 ≤ R.locals) (hrm : k + mc' ≤ R.cells ∧ n + ms' ≤ R.slots) (hcat : (st.map fun v => v.category).sum ≤ 8) (kk : aW G cc own mn nL ret R Q Xp (k + mc') (n + ms') fn.2 L (pc + 3) (vI fn.1 :: st)) : aW G cc own mn nL ret R Q Xp k n S L pc st0 := by
  intro p e s m args below meth c C H locs ls hH hS hl
  subst hst
  obtain ⟨m1, m2, m3, m4⟩ := hm
  have hpre := s_pre (av := As) C.2.2.2.2.2.2.2.2.1 C.2.2.2.2.2.2.2.2.2.1 hH hS
  refine s_after (va_runS (As := As) (rest := st) ⟨C.1, C.2.1, C.2.2.2.1, C.2.2.2.2.1, C.2.2.2.2.2.1⟩ hM ⟨(callB_of (rm := sR d' mc' ms') na C.2.2.2.2.2.1 (mt_good m1) rfl rfl rfl (C.2.2.2.2.2.1 _ m2) (C.2.2.2.2.2.1 _ hw) m3 ⟨hfr, by show 8 + (nL' + 11) + 80 * d' ≤ R.locals; omega⟩), C.2.2.2.2.2.1 _ hi⟩ hpre rfl hn hl.1 rfl (lv_room hcat) hd hrm) hS (fun H1 locs1 h1 h2 => ?_)
  rw [hrv] ; exact kk p e s m args below meth c C H1 locs1 ls h1 h2 hl
theorem a_callSL {ob ci i na nL' d' mc' ms' N : Nat} {tm As st0 : List Value} {y : MethodName} {cc' : ByteArray} {ret' : Option FieldType} {fn : Int × sS} {Tt : u_T} {Cn : String} {ty : Nat → FieldType} (hd : decode cc pc = .ok (.invokestatic i, 3)) (hm : mtK y cc' nL' ret' na) (hi : Cond.static y ∈ lw_good) (hw : Cond.methodLink own i y ∈ lw_good) (hn : As.length = na) (hM : aM G y cc' nL' ret' d' mc' ms' As S fn) (hrv : ∀ r, sRV G ret' r = some (vL r)) (hst : As.reverse ++ st = st0) (hfr : d' + 1 ≤ R.frames) (hlo : 80 * d' + 79 ≤ R.locals) (hrm : k + mc' ≤ R.cells ∧ n + ms' ≤ R.slots) (hcat : (st.map fun v => v.category).sum ≤ 8) (kk : aW G cc own mn nL ret R Q Xp (k + mc') (n + ms') fn.2 L (pc + 3) (vL fn.1 :: st)) : aW G cc own mn nL ret R Q Xp k n S L pc st0 := by
  intro p e s m args below meth c C H locs ls hH hS hl
  subst hst
  obtain ⟨m1, m2, m3, m4⟩ := hm
  have hpre := s_pre (av := As) C.2.2.2.2.2.2.2.2.1 C.2.2.2.2.2.2.2.2.2.1 hH hS
  refine s_after (va_runS (As := As) (rest := st) ⟨C.1, C.2.1, C.2.2.2.1, C.2.2.2.2.1, C.2.2.2.2.2.1⟩ hM ⟨(callB_of (rm := sR d' mc' ms') na C.2.2.2.2.2.1 (mt_good m1) rfl rfl rfl (C.2.2.2.2.2.1 _ m2) (C.2.2.2.2.2.1 _ hw) m3 ⟨hfr, by show 8 + (nL' + 11) + 80 * d' ≤ R.locals; omega⟩), C.2.2.2.2.2.1 _ hi⟩ hpre rfl hn hl.1 rfl (lv_room hcat) hd hrm) hS (fun H1 locs1 h1 h2 => ?_)
  rw [hrv] ; exact kk p e s m args below meth c C H1 locs1 ls h1 h2 hl
theorem a_callSR {ob ci i na nL' d' mc' ms' N : Nat} {tm As st0 : List Value} {y : MethodName} {cc' : ByteArray} {ret' : Option FieldType} {fn : Int × sS} {Tt : u_T} {Cn : String} {ty : Nat → FieldType} (hd : decode cc pc = .ok (.invokestatic i, 3)) (hm : mtK y cc' nL' ret' na) (hi : Cond.static y ∈ lw_good) (hw : Cond.methodLink own i y ∈ lw_good) (hn : As.length = na) (hM : aM G y cc' nL' ret' d' mc' ms' As S fn) (hrv : ∀ r, sRV G ret' r = some (.ref (gB G + r.toNat))) (hst : As.reverse ++ st = st0) (hfr : d' + 1 ≤ R.frames) (hlo : 80 * d' + 79 ≤ R.locals) (hrm : k + mc' ≤ R.cells ∧ n + ms' ≤ R.slots) (hcat : (st.map fun v => v.category).sum ≤ 8) (kk : aW G cc own mn nL ret R Q Xp (k + mc') (n + ms') fn.2 L (pc + 3) (.ref (gB G + fn.1.toNat) :: st)) : aW G cc own mn nL ret R Q Xp k n S L pc st0 := by
  intro p e s m args below meth c C H locs ls hH hS hl
  subst hst
  obtain ⟨m1, m2, m3, m4⟩ := hm
  have hpre := s_pre (av := As) C.2.2.2.2.2.2.2.2.1 C.2.2.2.2.2.2.2.2.2.1 hH hS
  refine s_after (va_runS (As := As) (rest := st) ⟨C.1, C.2.1, C.2.2.2.1, C.2.2.2.2.1, C.2.2.2.2.2.1⟩ hM ⟨(callB_of (rm := sR d' mc' ms') na C.2.2.2.2.2.1 (mt_good m1) rfl rfl rfl (C.2.2.2.2.2.1 _ m2) (C.2.2.2.2.2.1 _ hw) m3 ⟨hfr, by show 8 + (nL' + 11) + 80 * d' ≤ R.locals; omega⟩), C.2.2.2.2.2.1 _ hi⟩ hpre rfl hn hl.1 rfl (lv_room hcat) hd hrm) hS (fun H1 locs1 h1 h2 => ?_)
  rw [hrv] ; exact kk p e s m args below meth c C H1 locs1 ls h1 h2 hl
theorem a_callSV {ob ci i na nL' d' mc' ms' N : Nat} {tm As st0 : List Value} {y : MethodName} {cc' : ByteArray} {ret' : Option FieldType} {fn : Int × sS} {Tt : u_T} {Cn : String} {ty : Nat → FieldType} (hd : decode cc pc = .ok (.invokestatic i, 3)) (hm : mtK y cc' nL' ret' na) (hi : Cond.static y ∈ lw_good) (hw : Cond.methodLink own i y ∈ lw_good) (hn : As.length = na) (hM : aM G y cc' nL' ret' d' mc' ms' As S fn) (hrv : ∀ r, sRV G ret' r = none) (hst : As.reverse ++ st = st0) (hfr : d' + 1 ≤ R.frames) (hlo : 80 * d' + 79 ≤ R.locals) (hrm : k + mc' ≤ R.cells ∧ n + ms' ≤ R.slots) (hcat : (st.map fun v => v.category).sum ≤ 8) (kk : aW G cc own mn nL ret R Q Xp (k + mc') (n + ms') fn.2 L (pc + 3) st) : aW G cc own mn nL ret R Q Xp k n S L pc st0 := by
  intro p e s m args below meth c C H locs ls hH hS hl
  subst hst
  obtain ⟨m1, m2, m3, m4⟩ := hm
  have hpre := s_pre (av := As) C.2.2.2.2.2.2.2.2.1 C.2.2.2.2.2.2.2.2.2.1 hH hS
  refine s_after (va_runS (As := As) (rest := st) ⟨C.1, C.2.1, C.2.2.2.1, C.2.2.2.2.1, C.2.2.2.2.2.1⟩ hM ⟨(callB_of (rm := sR d' mc' ms') na C.2.2.2.2.2.1 (mt_good m1) rfl rfl rfl (C.2.2.2.2.2.1 _ m2) (C.2.2.2.2.2.1 _ hw) m3 ⟨hfr, by show 8 + (nL' + 11) + 80 * d' ≤ R.locals; omega⟩), C.2.2.2.2.2.1 _ hi⟩ hpre rfl hn hl.1 rfl (lv_room hcat) hd hrm) hS (fun H1 locs1 h1 h2 => ?_)
  rw [hrv] ; exact kk p e s m args below meth c C H1 locs1 ls h1 h2 hl
theorem a_callVNI {ob ci i na nL' d' mc' ms' N : Nat} {tm As st0 : List Value} {y : MethodName} {cc' : ByteArray} {ret' : Option FieldType} {fn : Int × sS} {Tt : u_T} {Cn : String} {ty : Nat → FieldType} {host : String} (hd : decode cc pc = .ok (.invokevirtual i, 3)) (hm : mtK y cc' nL' ret' na) (hk : clK ci Cn Tt N ty) (hcn : y.cls = Cn) (hi : Cond.instanceMethod y ∈ lw_good) (hse : Cond.selects Cn y y ∈ lw_good) (hc : S.1[ob]? = some (.inl (ci, tm))) (hw : Cond.methodLinkNest own i y host ∈ lw_nest) (hn : As.length = na) (hM : aM G y cc' nL' ret' d' mc' ms' (.ref (gB G + ob) :: As) S fn) (hrv : ∀ r, sRV G ret' r = some (vI r)) (hst : As.reverse ++ .ref (gB G + ob) :: st = st0) (hfr : d' + 1 ≤ R.frames) (hlo : 80 * d' + 79 ≤ R.locals) (hrm : k + mc' ≤ R.cells ∧ n + ms' ≤ R.slots) (hcat : (st.map fun v => v.category).sum ≤ 8) (kk : aW G cc own mn nL ret R Q Xp (k + mc') (n + ms') fn.2 L (pc + 3) (vI fn.1 :: st)) : aW G cc own mn nL ret R Q Xp k n S L pc st0 := by
  intro p e s m args below meth c C H locs ls hH hS hl
  subst hst
  obtain ⟨m1, m2, m3, m4⟩ := hm
  have hpre := s_pre (av := (.ref (gB G + ob) :: As)) C.2.2.2.2.2.2.2.2.1 C.2.2.2.2.2.2.2.2.2.1 hH hS
  refine s_after (va_runVN (C := Cn) (As := As) (rest := st) ⟨C.1, C.2.1, C.2.2.2.1, C.2.2.2.2.1, C.2.2.2.2.2.1⟩ hM ⟨(va_cnB (rm := sR d' mc' ms') na C.2.2.2.2.2.1 (mt_good m1) rfl rfl rfl (C.2.2.2.2.2.2.2.2.1.2.1 _ hw) (C.2.2.2.2.2.1 _ m2) m3 ⟨hfr, by show 8 + (nL' + 11) + 80 * d' ≤ R.locals; omega⟩), C.2.2.2.2.2.1 _ hi, C.2.2.2.2.2.1 _ hse⟩ ⟨hpre.1, va_recv C.2.2.2.2.2.2.2.2.1.1 hH.1 hk.1 (ws_some hc), hpre.2⟩ rfl hn hl.1 rfl (lv_room hcat) hd hrm) hS (fun H1 locs1 h1 h2 => ?_)
  rw [hrv] ; exact kk p e s m args below meth c C H1 locs1 ls h1 h2 hl
theorem a_callVNL {ob ci i na nL' d' mc' ms' N : Nat} {tm As st0 : List Value} {y : MethodName} {cc' : ByteArray} {ret' : Option FieldType} {fn : Int × sS} {Tt : u_T} {Cn : String} {ty : Nat → FieldType} {host : String} (hd : decode cc pc = .ok (.invokevirtual i, 3)) (hm : mtK y cc' nL' ret' na) (hk : clK ci Cn Tt N ty) (hcn : y.cls = Cn) (hi : Cond.instanceMethod y ∈ lw_good) (hse : Cond.selects Cn y y ∈ lw_good) (hc : S.1[ob]? = some (.inl (ci, tm))) (hw : Cond.methodLinkNest own i y host ∈ lw_nest) (hn : As.length = na) (hM : aM G y cc' nL' ret' d' mc' ms' (.ref (gB G + ob) :: As) S fn) (hrv : ∀ r, sRV G ret' r = some (vL r)) (hst : As.reverse ++ .ref (gB G + ob) :: st = st0) (hfr : d' + 1 ≤ R.frames) (hlo : 80 * d' + 79 ≤ R.locals) (hrm : k + mc' ≤ R.cells ∧ n + ms' ≤ R.slots) (hcat : (st.map fun v => v.category).sum ≤ 8) (kk : aW G cc own mn nL ret R Q Xp (k + mc') (n + ms') fn.2 L (pc + 3) (vL fn.1 :: st)) : aW G cc own mn nL ret R Q Xp k n S L pc st0 := by
  intro p e s m args below meth c C H locs ls hH hS hl
  subst hst
  obtain ⟨m1, m2, m3, m4⟩ := hm
  have hpre := s_pre (av := (.ref (gB G + ob) :: As)) C.2.2.2.2.2.2.2.2.1 C.2.2.2.2.2.2.2.2.2.1 hH hS
  refine s_after (va_runVN (C := Cn) (As := As) (rest := st) ⟨C.1, C.2.1, C.2.2.2.1, C.2.2.2.2.1, C.2.2.2.2.2.1⟩ hM ⟨(va_cnB (rm := sR d' mc' ms') na C.2.2.2.2.2.1 (mt_good m1) rfl rfl rfl (C.2.2.2.2.2.2.2.2.1.2.1 _ hw) (C.2.2.2.2.2.1 _ m2) m3 ⟨hfr, by show 8 + (nL' + 11) + 80 * d' ≤ R.locals; omega⟩), C.2.2.2.2.2.1 _ hi, C.2.2.2.2.2.1 _ hse⟩ ⟨hpre.1, va_recv C.2.2.2.2.2.2.2.2.1.1 hH.1 hk.1 (ws_some hc), hpre.2⟩ rfl hn hl.1 rfl (lv_room hcat) hd hrm) hS (fun H1 locs1 h1 h2 => ?_)
  rw [hrv] ; exact kk p e s m args below meth c C H1 locs1 ls h1 h2 hl
theorem a_callVNR {ob ci i na nL' d' mc' ms' N : Nat} {tm As st0 : List Value} {y : MethodName} {cc' : ByteArray} {ret' : Option FieldType} {fn : Int × sS} {Tt : u_T} {Cn : String} {ty : Nat → FieldType} {host : String} (hd : decode cc pc = .ok (.invokevirtual i, 3)) (hm : mtK y cc' nL' ret' na) (hk : clK ci Cn Tt N ty) (hcn : y.cls = Cn) (hi : Cond.instanceMethod y ∈ lw_good) (hse : Cond.selects Cn y y ∈ lw_good) (hc : S.1[ob]? = some (.inl (ci, tm))) (hw : Cond.methodLinkNest own i y host ∈ lw_nest) (hn : As.length = na) (hM : aM G y cc' nL' ret' d' mc' ms' (.ref (gB G + ob) :: As) S fn) (hrv : ∀ r, sRV G ret' r = some (.ref (gB G + r.toNat))) (hst : As.reverse ++ .ref (gB G + ob) :: st = st0) (hfr : d' + 1 ≤ R.frames) (hlo : 80 * d' + 79 ≤ R.locals) (hrm : k + mc' ≤ R.cells ∧ n + ms' ≤ R.slots) (hcat : (st.map fun v => v.category).sum ≤ 8) (kk : aW G cc own mn nL ret R Q Xp (k + mc') (n + ms') fn.2 L (pc + 3) (.ref (gB G + fn.1.toNat) :: st)) : aW G cc own mn nL ret R Q Xp k n S L pc st0 := by
  intro p e s m args below meth c C H locs ls hH hS hl
  subst hst
  obtain ⟨m1, m2, m3, m4⟩ := hm
  have hpre := s_pre (av := (.ref (gB G + ob) :: As)) C.2.2.2.2.2.2.2.2.1 C.2.2.2.2.2.2.2.2.2.1 hH hS
  refine s_after (va_runVN (C := Cn) (As := As) (rest := st) ⟨C.1, C.2.1, C.2.2.2.1, C.2.2.2.2.1, C.2.2.2.2.2.1⟩ hM ⟨(va_cnB (rm := sR d' mc' ms') na C.2.2.2.2.2.1 (mt_good m1) rfl rfl rfl (C.2.2.2.2.2.2.2.2.1.2.1 _ hw) (C.2.2.2.2.2.1 _ m2) m3 ⟨hfr, by show 8 + (nL' + 11) + 80 * d' ≤ R.locals; omega⟩), C.2.2.2.2.2.1 _ hi, C.2.2.2.2.2.1 _ hse⟩ ⟨hpre.1, va_recv C.2.2.2.2.2.2.2.2.1.1 hH.1 hk.1 (ws_some hc), hpre.2⟩ rfl hn hl.1 rfl (lv_room hcat) hd hrm) hS (fun H1 locs1 h1 h2 => ?_)
  rw [hrv] ; exact kk p e s m args below meth c C H1 locs1 ls h1 h2 hl
theorem a_callVNV {ob ci i na nL' d' mc' ms' N : Nat} {tm As st0 : List Value} {y : MethodName} {cc' : ByteArray} {ret' : Option FieldType} {fn : Int × sS} {Tt : u_T} {Cn : String} {ty : Nat → FieldType} {host : String} (hd : decode cc pc = .ok (.invokevirtual i, 3)) (hm : mtK y cc' nL' ret' na) (hk : clK ci Cn Tt N ty) (hcn : y.cls = Cn) (hi : Cond.instanceMethod y ∈ lw_good) (hse : Cond.selects Cn y y ∈ lw_good) (hc : S.1[ob]? = some (.inl (ci, tm))) (hw : Cond.methodLinkNest own i y host ∈ lw_nest) (hn : As.length = na) (hM : aM G y cc' nL' ret' d' mc' ms' (.ref (gB G + ob) :: As) S fn) (hrv : ∀ r, sRV G ret' r = none) (hst : As.reverse ++ .ref (gB G + ob) :: st = st0) (hfr : d' + 1 ≤ R.frames) (hlo : 80 * d' + 79 ≤ R.locals) (hrm : k + mc' ≤ R.cells ∧ n + ms' ≤ R.slots) (hcat : (st.map fun v => v.category).sum ≤ 8) (kk : aW G cc own mn nL ret R Q Xp (k + mc') (n + ms') fn.2 L (pc + 3) st) : aW G cc own mn nL ret R Q Xp k n S L pc st0 := by
  intro p e s m args below meth c C H locs ls hH hS hl
  subst hst
  obtain ⟨m1, m2, m3, m4⟩ := hm
  have hpre := s_pre (av := (.ref (gB G + ob) :: As)) C.2.2.2.2.2.2.2.2.1 C.2.2.2.2.2.2.2.2.2.1 hH hS
  refine s_after (va_runVN (C := Cn) (As := As) (rest := st) ⟨C.1, C.2.1, C.2.2.2.1, C.2.2.2.2.1, C.2.2.2.2.2.1⟩ hM ⟨(va_cnB (rm := sR d' mc' ms') na C.2.2.2.2.2.1 (mt_good m1) rfl rfl rfl (C.2.2.2.2.2.2.2.2.1.2.1 _ hw) (C.2.2.2.2.2.1 _ m2) m3 ⟨hfr, by show 8 + (nL' + 11) + 80 * d' ≤ R.locals; omega⟩), C.2.2.2.2.2.1 _ hi, C.2.2.2.2.2.1 _ hse⟩ ⟨hpre.1, va_recv C.2.2.2.2.2.2.2.2.1.1 hH.1 hk.1 (ws_some hc), hpre.2⟩ rfl hn hl.1 rfl (lv_room hcat) hd hrm) hS (fun H1 locs1 h1 h2 => ?_)
  rw [hrv] ; exact kk p e s m args below meth c C H1 locs1 ls h1 h2 hl
theorem a_callSNI {ob ci i na nL' d' mc' ms' N : Nat} {tm As st0 : List Value} {y : MethodName} {cc' : ByteArray} {ret' : Option FieldType} {fn : Int × sS} {Tt : u_T} {Cn : String} {ty : Nat → FieldType} {host : String} (hd : decode cc pc = .ok (.invokestatic i, 3)) (hm : mtK y cc' nL' ret' na) (hi : Cond.static y ∈ lw_good) (hw : Cond.methodLinkNest own i y host ∈ lw_nest) (hn : As.length = na) (hM : aM G y cc' nL' ret' d' mc' ms' As S fn) (hrv : ∀ r, sRV G ret' r = some (vI r)) (hst : As.reverse ++ st = st0) (hfr : d' + 1 ≤ R.frames) (hlo : 80 * d' + 79 ≤ R.locals) (hrm : k + mc' ≤ R.cells ∧ n + ms' ≤ R.slots) (hcat : (st.map fun v => v.category).sum ≤ 8) (kk : aW G cc own mn nL ret R Q Xp (k + mc') (n + ms') fn.2 L (pc + 3) (vI fn.1 :: st)) : aW G cc own mn nL ret R Q Xp k n S L pc st0 := by
  intro p e s m args below meth c C H locs ls hH hS hl
  subst hst
  obtain ⟨m1, m2, m3, m4⟩ := hm
  have hpre := s_pre (av := As) C.2.2.2.2.2.2.2.2.1 C.2.2.2.2.2.2.2.2.2.1 hH hS
  refine s_after (va_runSN (As := As) (rest := st) ⟨C.1, C.2.1, C.2.2.2.1, C.2.2.2.2.1, C.2.2.2.2.2.1⟩ hM ⟨(va_cnB (rm := sR d' mc' ms') na C.2.2.2.2.2.1 (mt_good m1) rfl rfl rfl (C.2.2.2.2.2.2.2.2.1.2.1 _ hw) (C.2.2.2.2.2.1 _ m2) m3 ⟨hfr, by show 8 + (nL' + 11) + 80 * d' ≤ R.locals; omega⟩), C.2.2.2.2.2.1 _ hi, trivial⟩ hpre rfl hn hl.1 rfl (lv_room hcat) hd hrm) hS (fun H1 locs1 h1 h2 => ?_)
  rw [hrv] ; exact kk p e s m args below meth c C H1 locs1 ls h1 h2 hl
theorem a_callSNL {ob ci i na nL' d' mc' ms' N : Nat} {tm As st0 : List Value} {y : MethodName} {cc' : ByteArray} {ret' : Option FieldType} {fn : Int × sS} {Tt : u_T} {Cn : String} {ty : Nat → FieldType} {host : String} (hd : decode cc pc = .ok (.invokestatic i, 3)) (hm : mtK y cc' nL' ret' na) (hi : Cond.static y ∈ lw_good) (hw : Cond.methodLinkNest own i y host ∈ lw_nest) (hn : As.length = na) (hM : aM G y cc' nL' ret' d' mc' ms' As S fn) (hrv : ∀ r, sRV G ret' r = some (vL r)) (hst : As.reverse ++ st = st0) (hfr : d' + 1 ≤ R.frames) (hlo : 80 * d' + 79 ≤ R.locals) (hrm : k + mc' ≤ R.cells ∧ n + ms' ≤ R.slots) (hcat : (st.map fun v => v.category).sum ≤ 8) (kk : aW G cc own mn nL ret R Q Xp (k + mc') (n + ms') fn.2 L (pc + 3) (vL fn.1 :: st)) : aW G cc own mn nL ret R Q Xp k n S L pc st0 := by
  intro p e s m args below meth c C H locs ls hH hS hl
  subst hst
  obtain ⟨m1, m2, m3, m4⟩ := hm
  have hpre := s_pre (av := As) C.2.2.2.2.2.2.2.2.1 C.2.2.2.2.2.2.2.2.2.1 hH hS
  refine s_after (va_runSN (As := As) (rest := st) ⟨C.1, C.2.1, C.2.2.2.1, C.2.2.2.2.1, C.2.2.2.2.2.1⟩ hM ⟨(va_cnB (rm := sR d' mc' ms') na C.2.2.2.2.2.1 (mt_good m1) rfl rfl rfl (C.2.2.2.2.2.2.2.2.1.2.1 _ hw) (C.2.2.2.2.2.1 _ m2) m3 ⟨hfr, by show 8 + (nL' + 11) + 80 * d' ≤ R.locals; omega⟩), C.2.2.2.2.2.1 _ hi, trivial⟩ hpre rfl hn hl.1 rfl (lv_room hcat) hd hrm) hS (fun H1 locs1 h1 h2 => ?_)
  rw [hrv] ; exact kk p e s m args below meth c C H1 locs1 ls h1 h2 hl
theorem a_callSNR {ob ci i na nL' d' mc' ms' N : Nat} {tm As st0 : List Value} {y : MethodName} {cc' : ByteArray} {ret' : Option FieldType} {fn : Int × sS} {Tt : u_T} {Cn : String} {ty : Nat → FieldType} {host : String} (hd : decode cc pc = .ok (.invokestatic i, 3)) (hm : mtK y cc' nL' ret' na) (hi : Cond.static y ∈ lw_good) (hw : Cond.methodLinkNest own i y host ∈ lw_nest) (hn : As.length = na) (hM : aM G y cc' nL' ret' d' mc' ms' As S fn) (hrv : ∀ r, sRV G ret' r = some (.ref (gB G + r.toNat))) (hst : As.reverse ++ st = st0) (hfr : d' + 1 ≤ R.frames) (hlo : 80 * d' + 79 ≤ R.locals) (hrm : k + mc' ≤ R.cells ∧ n + ms' ≤ R.slots) (hcat : (st.map fun v => v.category).sum ≤ 8) (kk : aW G cc own mn nL ret R Q Xp (k + mc') (n + ms') fn.2 L (pc + 3) (.ref (gB G + fn.1.toNat) :: st)) : aW G cc own mn nL ret R Q Xp k n S L pc st0 := by
  intro p e s m args below meth c C H locs ls hH hS hl
  subst hst
  obtain ⟨m1, m2, m3, m4⟩ := hm
  have hpre := s_pre (av := As) C.2.2.2.2.2.2.2.2.1 C.2.2.2.2.2.2.2.2.2.1 hH hS
  refine s_after (va_runSN (As := As) (rest := st) ⟨C.1, C.2.1, C.2.2.2.1, C.2.2.2.2.1, C.2.2.2.2.2.1⟩ hM ⟨(va_cnB (rm := sR d' mc' ms') na C.2.2.2.2.2.1 (mt_good m1) rfl rfl rfl (C.2.2.2.2.2.2.2.2.1.2.1 _ hw) (C.2.2.2.2.2.1 _ m2) m3 ⟨hfr, by show 8 + (nL' + 11) + 80 * d' ≤ R.locals; omega⟩), C.2.2.2.2.2.1 _ hi, trivial⟩ hpre rfl hn hl.1 rfl (lv_room hcat) hd hrm) hS (fun H1 locs1 h1 h2 => ?_)
  rw [hrv] ; exact kk p e s m args below meth c C H1 locs1 ls h1 h2 hl
theorem a_callSNV {ob ci i na nL' d' mc' ms' N : Nat} {tm As st0 : List Value} {y : MethodName} {cc' : ByteArray} {ret' : Option FieldType} {fn : Int × sS} {Tt : u_T} {Cn : String} {ty : Nat → FieldType} {host : String} (hd : decode cc pc = .ok (.invokestatic i, 3)) (hm : mtK y cc' nL' ret' na) (hi : Cond.static y ∈ lw_good) (hw : Cond.methodLinkNest own i y host ∈ lw_nest) (hn : As.length = na) (hM : aM G y cc' nL' ret' d' mc' ms' As S fn) (hrv : ∀ r, sRV G ret' r = none) (hst : As.reverse ++ st = st0) (hfr : d' + 1 ≤ R.frames) (hlo : 80 * d' + 79 ≤ R.locals) (hrm : k + mc' ≤ R.cells ∧ n + ms' ≤ R.slots) (hcat : (st.map fun v => v.category).sum ≤ 8) (kk : aW G cc own mn nL ret R Q Xp (k + mc') (n + ms') fn.2 L (pc + 3) st) : aW G cc own mn nL ret R Q Xp k n S L pc st0 := by
  intro p e s m args below meth c C H locs ls hH hS hl
  subst hst
  obtain ⟨m1, m2, m3, m4⟩ := hm
  have hpre := s_pre (av := As) C.2.2.2.2.2.2.2.2.1 C.2.2.2.2.2.2.2.2.2.1 hH hS
  refine s_after (va_runSN (As := As) (rest := st) ⟨C.1, C.2.1, C.2.2.2.1, C.2.2.2.2.1, C.2.2.2.2.2.1⟩ hM ⟨(va_cnB (rm := sR d' mc' ms') na C.2.2.2.2.2.1 (mt_good m1) rfl rfl rfl (C.2.2.2.2.2.2.2.2.1.2.1 _ hw) (C.2.2.2.2.2.1 _ m2) m3 ⟨hfr, by show 8 + (nL' + 11) + 80 * d' ≤ R.locals; omega⟩), C.2.2.2.2.2.1 _ hi, trivial⟩ hpre rfl hn hl.1 rfl (lv_room hcat) hd hrm) hS (fun H1 locs1 h1 h2 => ?_)
  rw [hrv] ; exact kk p e s m args below meth c C H1 locs1 ls h1 h2 hl
theorem a_callIV {ob ci i na nL' d' mc' ms' N : Nat} {tm As st0 : List Value} {y : MethodName} {cc' : ByteArray} {ret' : Option FieldType} {fn : Int × sS} {Tt : u_T} {Cn : String} {ty : Nat → FieldType} (hd : decode cc pc = .ok (.invokespecial i, 3)) (hm : mtK y cc' nL' none na) (hi : Cond.instanceMethod y ∈ lw_good) (hin : y.name = "<init>") (hw : Cond.methodLink own i y ∈ lw_good) (hn : As.length = na) (hM : aM G y cc' nL' none d' mc' ms' (.ref (gB G + ob) :: As) S fn) (hst : As.reverse ++ .ref (gB G + ob) :: st = st0) (hfr : d' + 1 ≤ R.frames) (hlo : 80 * d' + 79 ≤ R.locals) (hrm : k + mc' ≤ R.cells ∧ n + ms' ≤ R.slots) (hcat : (st.map fun v => v.category).sum ≤ 8) (kk : aW G cc own mn nL ret R Q Xp (k + mc') (n + ms') fn.2 L (pc + 3) st) : aW G cc own mn nL ret R Q Xp k n S L pc st0 := by
  intro p e s m args below meth c C H locs ls hH hS hl
  subst hst
  obtain ⟨m1, m2, m3, m4⟩ := hm
  have hpre := s_pre (av := (.ref (gB G + ob) :: As)) C.2.2.2.2.2.2.2.2.1 C.2.2.2.2.2.2.2.2.2.1 hH hS
  refine s_after (va_runI (As := As) (rest := st) ⟨C.1, C.2.1, C.2.2.2.1, C.2.2.2.2.1, C.2.2.2.2.2.1⟩ hM ⟨(callB_of (rm := sR d' mc' ms') na C.2.2.2.2.2.1 (mt_good m1) rfl rfl rfl (C.2.2.2.2.2.1 _ m2) (C.2.2.2.2.2.1 _ hw) m3 ⟨hfr, by show 8 + (nL' + 11) + 80 * d' ≤ R.locals; omega⟩), hin, C.2.2.2.2.2.1 _ hi⟩ hpre rfl hn hl.1 rfl (lv_room hcat) hd hrm) hS (fun H1 locs1 h1 h2 => ?_)
  exact kk p e s m args below meth c C H1 locs1 ls h1 h2 hl
theorem a_callINV {ob ci i na nL' d' mc' ms' N : Nat} {tm As st0 : List Value} {y : MethodName} {cc' : ByteArray} {ret' : Option FieldType} {fn : Int × sS} {Tt : u_T} {Cn : String} {ty : Nat → FieldType} {host : String} (hd : decode cc pc = .ok (.invokespecial i, 3)) (hm : mtK y cc' nL' none na) (hi : Cond.instanceMethod y ∈ lw_good) (hin : y.name = "<init>") (hw : Cond.methodLinkNest own i y host ∈ lw_nest) (hn : As.length = na) (hM : aM G y cc' nL' none d' mc' ms' (.ref (gB G + ob) :: As) S fn) (hst : As.reverse ++ .ref (gB G + ob) :: st = st0) (hfr : d' + 1 ≤ R.frames) (hlo : 80 * d' + 79 ≤ R.locals) (hrm : k + mc' ≤ R.cells ∧ n + ms' ≤ R.slots) (hcat : (st.map fun v => v.category).sum ≤ 8) (kk : aW G cc own mn nL ret R Q Xp (k + mc') (n + ms') fn.2 L (pc + 3) st) : aW G cc own mn nL ret R Q Xp k n S L pc st0 := by
  intro p e s m args below meth c C H locs ls hH hS hl
  subst hst
  obtain ⟨m1, m2, m3, m4⟩ := hm
  have hpre := s_pre (av := (.ref (gB G + ob) :: As)) C.2.2.2.2.2.2.2.2.1 C.2.2.2.2.2.2.2.2.2.1 hH hS
  refine s_after (va_runIN (As := As) (rest := st) ⟨C.1, C.2.1, C.2.2.2.1, C.2.2.2.2.1, C.2.2.2.2.2.1⟩ hM ⟨(va_cnB (rm := sR d' mc' ms') na C.2.2.2.2.2.1 (mt_good m1) rfl rfl rfl (C.2.2.2.2.2.2.2.2.1.2.1 _ hw) (C.2.2.2.2.2.1 _ m2) m3 ⟨hfr, by show 8 + (nL' + 11) + 80 * d' ≤ R.locals; omega⟩), hin, C.2.2.2.2.2.1 _ hi⟩ hpre rfl hn hl.1 rfl (lv_room hcat) hd hrm) hS (fun H1 locs1 h1 h2 => ?_)
  exact kk p e s m args below meth c C H1 locs1 ls h1 h2 hl
theorem a_mmax {i : Nat} {x y : Int} (hd : decode cc pc = .ok (.invokestatic i, 3)) (hw : Cond.methodLink own i Lib.Math.max.name ∈ lw_good) (hs : Cond.static Lib.Math.max.name ∈ lw_good) (hi : Cond.initialized "java/lang/Math" ∈ lw_good) (hcd : Cond.code Lib.Math.max.name Lib.Math.max.code 2 (some .int) ∈ lw_good) (hfr : 1 ≤ R.frames ∧ 21 ≤ R.locals) (hrm : k ≤ R.cells ∧ n ≤ R.slots) (hcat : (st.map fun v => v.category).sum ≤ 8) (kk : aW G cc own mn nL ret R Q Xp k n S L (pc + 3) (vI (if wi x < wi y then y else x) :: st)) : aW G cc own mn nL ret R Q Xp k n S L pc (vI y :: vI x :: st) := by
  intro p e s m args below meth c C H locs ls hH hS hl
  refine va_mmax C.1 C.2.1 (by rw [C.2.2.2.1]; exact hl.1.symm) C.2.2.2.2.1 (C.2.2.2.2.2.1 _ hw) (C.2.2.2.2.2.1 _ hs) (C.2.2.2.2.2.1 _ hi) (C.2.2.2.2.2.1 _ hcd) hfr.1 (by omega) hrm.1 hrm.2 hd ?_
  have h := kk p e s m args below meth c C H locs ls hH hS hl
  by_cases q : wi x < wi y
  · rw [if_pos q] at h; rw [if_pos ((oi_lt x y).mpr q)]; exact h
  · rw [if_neg q] at h; rw [if_neg (fun z => q ((oi_lt x y).mp z))]; exact h
theorem a_mmin {i : Nat} {x y : Int} (hd : decode cc pc = .ok (.invokestatic i, 3)) (hw : Cond.methodLink own i Lib.Math.min.name ∈ lw_good) (hs : Cond.static Lib.Math.min.name ∈ lw_good) (hi : Cond.initialized "java/lang/Math" ∈ lw_good) (hcd : Cond.code Lib.Math.min.name Lib.Math.min.code 2 (some .int) ∈ lw_good) (hfr : 1 ≤ R.frames ∧ 21 ≤ R.locals) (hrm : k ≤ R.cells ∧ n ≤ R.slots) (hcat : (st.map fun v => v.category).sum ≤ 8) (kk : aW G cc own mn nL ret R Q Xp k n S L (pc + 3) (vI (if wi y < wi x then y else x) :: st)) : aW G cc own mn nL ret R Q Xp k n S L pc (vI y :: vI x :: st) := by
  intro p e s m args below meth c C H locs ls hH hS hl
  refine va_mmin C.1 C.2.1 (by rw [C.2.2.2.1]; exact hl.1.symm) C.2.2.2.2.1 (C.2.2.2.2.2.1 _ hw) (C.2.2.2.2.2.1 _ hs) (C.2.2.2.2.2.1 _ hi) (C.2.2.2.2.2.1 _ hcd) hfr.1 (by omega) hrm.1 hrm.2 hd ?_
  have h := kk p e s m args below meth c C H locs ls hH hS hl
  by_cases q : wi y < wi x
  · rw [if_pos q] at h; rw [if_pos ((oi_lt y x).mpr q)]; exact h
  · rw [if_neg q] at h; rw [if_neg (fun z => q ((oi_lt y x).mp z))]; exact h
end AWR
end
section
theorem zz_last : True := trivial
end
