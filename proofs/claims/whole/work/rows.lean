section
-- ===== PART A: goes FIRST, ahead of the names: the tables' words, and 'selects' of the private methods out of them =====
/-- a private method of a class that the tables say can be made, by its rows of tables_1 -/
def lw_okq (q : MethodName × Nat) : Prop := (q.1.cls ≠ "java/lang/invoke/MethodHandle" ∧ q.1.cls ≠ "java/lang/invoke/VarHandle") ∧ Cond.instantiable q.1.cls q.2 ∈ tables_1 ∧ Cond.privateMethod q.1 ∈ tables_1 ∧ Cond.instanceMethod q.1 ∈ tables_1
theorem lw_p0 : lw_okq (⟨"ThinkingForm$Net", "addStep", "(II)V"⟩, 6) := ⟨⟨by decide +kernel, by decide +kernel⟩, List.mem_of_getElem? (i := 23) (by decide +kernel), List.mem_of_getElem? (i := 318) (by decide +kernel), List.mem_of_getElem? (i := 319) (by decide +kernel)⟩
theorem lw_p1 : lw_okq (⟨"ThinkingForm", "knowsOperands", "(IIII)Z"⟩, 8) := ⟨⟨by decide +kernel, by decide +kernel⟩, List.mem_of_getElem? (i := 15) (by decide +kernel), List.mem_of_getElem? (i := 326) (by decide +kernel), List.mem_of_getElem? (i := 327) (by decide +kernel)⟩
theorem lw_p2 : lw_okq (⟨"ThinkingForm$Parts", "gatherAnswers", "(I)I"⟩, 6) := ⟨⟨by decide +kernel, by decide +kernel⟩, List.mem_of_getElem? (i := 83) (by decide +kernel), List.mem_of_getElem? (i := 344) (by decide +kernel), List.mem_of_getElem? (i := 345) (by decide +kernel)⟩
theorem lw_p3 : lw_okq (⟨"ThinkingForm", "hasPlace", "(II)Z"⟩, 8) := ⟨⟨by decide +kernel, by decide +kernel⟩, List.mem_of_getElem? (i := 15) (by decide +kernel), List.mem_of_getElem? (i := 406) (by decide +kernel), List.mem_of_getElem? (i := 407) (by decide +kernel)⟩
theorem lw_p4 : lw_okq (⟨"ThinkingForm", "hasDraft", "(I)Z"⟩, 8) := ⟨⟨by decide +kernel, by decide +kernel⟩, List.mem_of_getElem? (i := 15) (by decide +kernel), List.mem_of_getElem? (i := 410) (by decide +kernel), List.mem_of_getElem? (i := 411) (by decide +kernel)⟩
theorem lw_p5 : lw_okq (⟨"ThinkingForm", "lockedBits", "(I)I"⟩, 8) := ⟨⟨by decide +kernel, by decide +kernel⟩, List.mem_of_getElem? (i := 15) (by decide +kernel), List.mem_of_getElem? (i := 418) (by decide +kernel), List.mem_of_getElem? (i := 419) (by decide +kernel)⟩
theorem lw_p6 : lw_okq (⟨"ThinkingForm$Sight", "takeStep", "(LThinkingForm$Net;[II)V"⟩, 3) := ⟨⟨by decide +kernel, by decide +kernel⟩, List.mem_of_getElem? (i := 162) (by decide +kernel), List.mem_of_getElem? (i := 442) (by decide +kernel), List.mem_of_getElem? (i := 443) (by decide +kernel)⟩
theorem lw_p7 : lw_okq (⟨"ThinkingForm$Sight", "workOut", "(LThinkingForm$Parts;I)I"⟩, 3) := ⟨⟨by decide +kernel, by decide +kernel⟩, List.mem_of_getElem? (i := 162) (by decide +kernel), List.mem_of_getElem? (i := 446) (by decide +kernel), List.mem_of_getElem? (i := 447) (by decide +kernel)⟩
theorem lw_p8 : lw_okq (⟨"ThinkingForm$Sight", "takeField", "(LThinkingForm$Fields;[II)V"⟩, 3) := ⟨⟨by decide +kernel, by decide +kernel⟩, List.mem_of_getElem? (i := 162) (by decide +kernel), List.mem_of_getElem? (i := 465) (by decide +kernel), List.mem_of_getElem? (i := 466) (by decide +kernel)⟩
theorem lw_p9 : lw_okq (⟨"ThinkingForm", "isHolding", "(I)Z"⟩, 8) := ⟨⟨by decide +kernel, by decide +kernel⟩, List.mem_of_getElem? (i := 15) (by decide +kernel), List.mem_of_getElem? (i := 538) (by decide +kernel), List.mem_of_getElem? (i := 539) (by decide +kernel)⟩
theorem lw_p10 : lw_okq (⟨"ThinkingForm$Trial", "listTurning", "(I)V"⟩, 5) := ⟨⟨by decide +kernel, by decide +kernel⟩, List.mem_of_getElem? (i := 228) (by decide +kernel), List.mem_of_getElem? (i := 559) (by decide +kernel), List.mem_of_getElem? (i := 560) (by decide +kernel)⟩
theorem lw_p11 : lw_okq (⟨"ThinkingForm$Trial", "turnRow", "(LThinkingForm$Fields;)I"⟩, 5) := ⟨⟨by decide +kernel, by decide +kernel⟩, List.mem_of_getElem? (i := 228) (by decide +kernel), List.mem_of_getElem? (i := 564) (by decide +kernel), List.mem_of_getElem? (i := 565) (by decide +kernel)⟩
theorem lw_p12 : lw_okq (⟨"ThinkingForm", "countHolding", "()I"⟩, 8) := ⟨⟨by decide +kernel, by decide +kernel⟩, List.mem_of_getElem? (i := 15) (by decide +kernel), List.mem_of_getElem? (i := 585) (by decide +kernel), List.mem_of_getElem? (i := 586) (by decide +kernel)⟩
theorem lw_p13 : lw_okq (⟨"ThinkingForm", "countAnswers", "(I)I"⟩, 8) := ⟨⟨by decide +kernel, by decide +kernel⟩, List.mem_of_getElem? (i := 15) (by decide +kernel), List.mem_of_getElem? (i := 589) (by decide +kernel), List.mem_of_getElem? (i := 590) (by decide +kernel)⟩
theorem lw_p14 : lw_okq (⟨"ThinkingForm$Telling", "tellPlain", "(LThinkingForm$Fields;I)I"⟩, 1) := ⟨⟨by decide +kernel, by decide +kernel⟩, List.mem_of_getElem? (i := 256) (by decide +kernel), List.mem_of_getElem? (i := 601) (by decide +kernel), List.mem_of_getElem? (i := 602) (by decide +kernel)⟩
theorem lw_p15 : lw_okq (⟨"ThinkingForm$Telling", "tellMade", "(LThinkingForm$Fields;I)I"⟩, 1) := ⟨⟨by decide +kernel, by decide +kernel⟩, List.mem_of_getElem? (i := 256) (by decide +kernel), List.mem_of_getElem? (i := 605) (by decide +kernel), List.mem_of_getElem? (i := 606) (by decide +kernel)⟩
def lw_privs_1 : List (MethodName × Nat) := [(⟨"ThinkingForm$Net", "addStep", "(II)V"⟩, 6), (⟨"ThinkingForm", "knowsOperands", "(IIII)Z"⟩, 8), (⟨"ThinkingForm$Parts", "gatherAnswers", "(I)I"⟩, 6), (⟨"ThinkingForm", "hasPlace", "(II)Z"⟩, 8), (⟨"ThinkingForm", "hasDraft", "(I)Z"⟩, 8), (⟨"ThinkingForm", "lockedBits", "(I)I"⟩, 8), (⟨"ThinkingForm$Sight", "takeStep", "(LThinkingForm$Net;[II)V"⟩, 3), (⟨"ThinkingForm$Sight", "workOut", "(LThinkingForm$Parts;I)I"⟩, 3), (⟨"ThinkingForm$Sight", "takeField", "(LThinkingForm$Fields;[II)V"⟩, 3), (⟨"ThinkingForm", "isHolding", "(I)Z"⟩, 8), (⟨"ThinkingForm$Trial", "listTurning", "(I)V"⟩, 5), (⟨"ThinkingForm$Trial", "turnRow", "(LThinkingForm$Fields;)I"⟩, 5), (⟨"ThinkingForm", "countHolding", "()I"⟩, 8), (⟨"ThinkingForm", "countAnswers", "(I)I"⟩, 8), (⟨"ThinkingForm$Telling", "tellPlain", "(LThinkingForm$Fields;I)I"⟩, 1), (⟨"ThinkingForm$Telling", "tellMade", "(LThinkingForm$Fields;I)I"⟩, 1)]
theorem lw_r1 : ∀ q ∈ lw_privs_1, lw_okq q := List.forall_mem_cons.mpr ⟨lw_p0, List.forall_mem_cons.mpr ⟨lw_p1, List.forall_mem_cons.mpr ⟨lw_p2, List.forall_mem_cons.mpr ⟨lw_p3, List.forall_mem_cons.mpr ⟨lw_p4, List.forall_mem_cons.mpr ⟨lw_p5, List.forall_mem_cons.mpr ⟨lw_p6, List.forall_mem_cons.mpr ⟨lw_p7, List.forall_mem_cons.mpr ⟨lw_p8, List.forall_mem_cons.mpr ⟨lw_p9, List.forall_mem_cons.mpr ⟨lw_p10, List.forall_mem_cons.mpr ⟨lw_p11, List.forall_mem_cons.mpr ⟨lw_p12, List.forall_mem_cons.mpr ⟨lw_p13, List.forall_mem_cons.mpr ⟨lw_p14, List.forall_mem_cons.mpr ⟨lw_p15, fun _ h => absurd h List.not_mem_nil⟩⟩⟩⟩⟩⟩⟩⟩⟩⟩⟩⟩⟩⟩⟩⟩
theorem lw_p16 : lw_okq (⟨"ThinkingForm$Telling", "leave", "(I)V"⟩, 1) := ⟨⟨by decide +kernel, by decide +kernel⟩, List.mem_of_getElem? (i := 256) (by decide +kernel), List.mem_of_getElem? (i := 609) (by decide +kernel), List.mem_of_getElem? (i := 610) (by decide +kernel)⟩
theorem lw_p17 : lw_okq (⟨"ThinkingForm$Telling", "tellAsked", "(LThinkingForm$Fields;I)I"⟩, 1) := ⟨⟨by decide +kernel, by decide +kernel⟩, List.mem_of_getElem? (i := 256) (by decide +kernel), List.mem_of_getElem? (i := 613) (by decide +kernel), List.mem_of_getElem? (i := 614) (by decide +kernel)⟩
theorem lw_p18 : lw_okq (⟨"ThinkingForm$Telling", "tellNeeded", "(LThinkingForm$Fields;I)I"⟩, 1) := ⟨⟨by decide +kernel, by decide +kernel⟩, List.mem_of_getElem? (i := 256) (by decide +kernel), List.mem_of_getElem? (i := 617) (by decide +kernel), List.mem_of_getElem? (i := 618) (by decide +kernel)⟩
theorem lw_p19 : lw_okq (⟨"ThinkingForm$Telling", "addressMade", "()I"⟩, 1) := ⟨⟨by decide +kernel, by decide +kernel⟩, List.mem_of_getElem? (i := 256) (by decide +kernel), List.mem_of_getElem? (i := 629) (by decide +kernel), List.mem_of_getElem? (i := 630) (by decide +kernel)⟩
theorem lw_p20 : lw_okq (⟨"ThinkingForm$Telling", "addressLent", "(I)I"⟩, 1) := ⟨⟨by decide +kernel, by decide +kernel⟩, List.mem_of_getElem? (i := 256) (by decide +kernel), List.mem_of_getElem? (i := 633) (by decide +kernel), List.mem_of_getElem? (i := 634) (by decide +kernel)⟩
theorem lw_p21 : lw_okq (⟨"ThinkingFormModel", "noField", "(I)Z"⟩, 34) := ⟨⟨by decide +kernel, by decide +kernel⟩, List.mem_of_getElem? (i := 641) (by decide +kernel), List.mem_of_getElem? (i := 769) (by decide +kernel), List.mem_of_getElem? (i := 770) (by decide +kernel)⟩
theorem lw_p22 : lw_okq (⟨"ThinkingFormModel", "noPart", "(I)Z"⟩, 34) := ⟨⟨by decide +kernel, by decide +kernel⟩, List.mem_of_getElem? (i := 641) (by decide +kernel), List.mem_of_getElem? (i := 773) (by decide +kernel), List.mem_of_getElem? (i := 774) (by decide +kernel)⟩
theorem lw_p23 : lw_okq (⟨"ThinkingFormModel", "findHangs", "()V"⟩, 34) := ⟨⟨by decide +kernel, by decide +kernel⟩, List.mem_of_getElem? (i := 641) (by decide +kernel), List.mem_of_getElem? (i := 783) (by decide +kernel), List.mem_of_getElem? (i := 784) (by decide +kernel)⟩
theorem lw_p24 : lw_okq (⟨"ThinkingFormModel", "needsOf", "(I)J"⟩, 34) := ⟨⟨by decide +kernel, by decide +kernel⟩, List.mem_of_getElem? (i := 641) (by decide +kernel), List.mem_of_getElem? (i := 787) (by decide +kernel), List.mem_of_getElem? (i := 788) (by decide +kernel)⟩
theorem lw_p25 : lw_okq (⟨"ThinkingFormModel", "reached", "(I)J"⟩, 34) := ⟨⟨by decide +kernel, by decide +kernel⟩, List.mem_of_getElem? (i := 641) (by decide +kernel), List.mem_of_getElem? (i := 791) (by decide +kernel), List.mem_of_getElem? (i := 792) (by decide +kernel)⟩
theorem lw_p26 : lw_okq (⟨"ThinkingFormModel", "fieldsOf", "(J)I"⟩, 34) := ⟨⟨by decide +kernel, by decide +kernel⟩, List.mem_of_getElem? (i := 641) (by decide +kernel), List.mem_of_getElem? (i := 795) (by decide +kernel), List.mem_of_getElem? (i := 796) (by decide +kernel)⟩
theorem lw_p27 : lw_okq (⟨"ThinkingFormModel", "findRing", "(I)V"⟩, 34) := ⟨⟨by decide +kernel, by decide +kernel⟩, List.mem_of_getElem? (i := 641) (by decide +kernel), List.mem_of_getElem? (i := 799) (by decide +kernel), List.mem_of_getElem? (i := 800) (by decide +kernel)⟩
theorem lw_p28 : lw_okq (⟨"ThinkingFormModel", "comesTo", "(III)Z"⟩, 34) := ⟨⟨by decide +kernel, by decide +kernel⟩, List.mem_of_getElem? (i := 641) (by decide +kernel), List.mem_of_getElem? (i := 803) (by decide +kernel), List.mem_of_getElem? (i := 804) (by decide +kernel)⟩
theorem lw_p29 : lw_okq (⟨"ThinkingFormModel", "arrange", "()V"⟩, 34) := ⟨⟨by decide +kernel, by decide +kernel⟩, List.mem_of_getElem? (i := 641) (by decide +kernel), List.mem_of_getElem? (i := 815) (by decide +kernel), List.mem_of_getElem? (i := 816) (by decide +kernel)⟩
theorem lw_p30 : lw_okq (⟨"ThinkingFormModel", "followers", "(I)I"⟩, 34) := ⟨⟨by decide +kernel, by decide +kernel⟩, List.mem_of_getElem? (i := 641) (by decide +kernel), List.mem_of_getElem? (i := 822) (by decide +kernel), List.mem_of_getElem? (i := 823) (by decide +kernel)⟩
theorem lw_p31 : lw_okq (⟨"ThinkingFormModel", "isLocked", "(II)Z"⟩, 34) := ⟨⟨by decide +kernel, by decide +kernel⟩, List.mem_of_getElem? (i := 641) (by decide +kernel), List.mem_of_getElem? (i := 837) (by decide +kernel), List.mem_of_getElem? (i := 838) (by decide +kernel)⟩
def lw_privs_2 : List (MethodName × Nat) := [(⟨"ThinkingForm$Telling", "leave", "(I)V"⟩, 1), (⟨"ThinkingForm$Telling", "tellAsked", "(LThinkingForm$Fields;I)I"⟩, 1), (⟨"ThinkingForm$Telling", "tellNeeded", "(LThinkingForm$Fields;I)I"⟩, 1), (⟨"ThinkingForm$Telling", "addressMade", "()I"⟩, 1), (⟨"ThinkingForm$Telling", "addressLent", "(I)I"⟩, 1), (⟨"ThinkingFormModel", "noField", "(I)Z"⟩, 34), (⟨"ThinkingFormModel", "noPart", "(I)Z"⟩, 34), (⟨"ThinkingFormModel", "findHangs", "()V"⟩, 34), (⟨"ThinkingFormModel", "needsOf", "(I)J"⟩, 34), (⟨"ThinkingFormModel", "reached", "(I)J"⟩, 34), (⟨"ThinkingFormModel", "fieldsOf", "(J)I"⟩, 34), (⟨"ThinkingFormModel", "findRing", "(I)V"⟩, 34), (⟨"ThinkingFormModel", "comesTo", "(III)Z"⟩, 34), (⟨"ThinkingFormModel", "arrange", "()V"⟩, 34), (⟨"ThinkingFormModel", "followers", "(I)I"⟩, 34), (⟨"ThinkingFormModel", "isLocked", "(II)Z"⟩, 34)]
theorem lw_r2 : ∀ q ∈ lw_privs_2, lw_okq q := List.forall_mem_cons.mpr ⟨lw_p16, List.forall_mem_cons.mpr ⟨lw_p17, List.forall_mem_cons.mpr ⟨lw_p18, List.forall_mem_cons.mpr ⟨lw_p19, List.forall_mem_cons.mpr ⟨lw_p20, List.forall_mem_cons.mpr ⟨lw_p21, List.forall_mem_cons.mpr ⟨lw_p22, List.forall_mem_cons.mpr ⟨lw_p23, List.forall_mem_cons.mpr ⟨lw_p24, List.forall_mem_cons.mpr ⟨lw_p25, List.forall_mem_cons.mpr ⟨lw_p26, List.forall_mem_cons.mpr ⟨lw_p27, List.forall_mem_cons.mpr ⟨lw_p28, List.forall_mem_cons.mpr ⟨lw_p29, List.forall_mem_cons.mpr ⟨lw_p30, List.forall_mem_cons.mpr ⟨lw_p31, fun _ h => absurd h List.not_mem_nil⟩⟩⟩⟩⟩⟩⟩⟩⟩⟩⟩⟩⟩⟩⟩⟩
theorem lw_p32 : lw_okq (⟨"ThinkingFormModel", "layDraft", "(I)V"⟩, 34) := ⟨⟨by decide +kernel, by decide +kernel⟩, List.mem_of_getElem? (i := 641) (by decide +kernel), List.mem_of_getElem? (i := 849) (by decide +kernel), List.mem_of_getElem? (i := 850) (by decide +kernel)⟩
theorem lw_p33 : lw_okq (⟨"ThinkingFormModel", "judge", "(I)V"⟩, 34) := ⟨⟨by decide +kernel, by decide +kernel⟩, List.mem_of_getElem? (i := 641) (by decide +kernel), List.mem_of_getElem? (i := 853) (by decide +kernel), List.mem_of_getElem? (i := 854) (by decide +kernel)⟩
theorem lw_p34 : lw_okq (⟨"ThinkingFormModel", "workAll", "(J)V"⟩, 34) := ⟨⟨by decide +kernel, by decide +kernel⟩, List.mem_of_getElem? (i := 641) (by decide +kernel), List.mem_of_getElem? (i := 857) (by decide +kernel), List.mem_of_getElem? (i := 858) (by decide +kernel)⟩
theorem lw_p35 : lw_okq (⟨"ThinkingFormModel", "work", "(I)V"⟩, 34) := ⟨⟨by decide +kernel, by decide +kernel⟩, List.mem_of_getElem? (i := 641) (by decide +kernel), List.mem_of_getElem? (i := 861) (by decide +kernel), List.mem_of_getElem? (i := 862) (by decide +kernel)⟩
theorem lw_p36 : lw_okq (⟨"ThinkingFormModel", "isSo", "(I)Z"⟩, 34) := ⟨⟨by decide +kernel, by decide +kernel⟩, List.mem_of_getElem? (i := 641) (by decide +kernel), List.mem_of_getElem? (i := 873) (by decide +kernel), List.mem_of_getElem? (i := 874) (by decide +kernel)⟩
theorem lw_p37 : lw_okq (⟨"ThinkingFormModel", "statusOf", "(I)I"⟩, 34) := ⟨⟨by decide +kernel, by decide +kernel⟩, List.mem_of_getElem? (i := 641) (by decide +kernel), List.mem_of_getElem? (i := 886) (by decide +kernel), List.mem_of_getElem? (i := 887) (by decide +kernel)⟩
theorem lw_p38 : lw_okq (⟨"ThinkingFormModel", "hasLocked", "(I)Z"⟩, 34) := ⟨⟨by decide +kernel, by decide +kernel⟩, List.mem_of_getElem? (i := 641) (by decide +kernel), List.mem_of_getElem? (i := 902) (by decide +kernel), List.mem_of_getElem? (i := 903) (by decide +kernel)⟩
theorem lw_p39 : lw_okq (⟨"ThinkingFormModel", "noSeal", "(I)Z"⟩, 34) := ⟨⟨by decide +kernel, by decide +kernel⟩, List.mem_of_getElem? (i := 641) (by decide +kernel), List.mem_of_getElem? (i := 922) (by decide +kernel), List.mem_of_getElem? (i := 923) (by decide +kernel)⟩
theorem lw_p40 : lw_okq (⟨"ThinkingFormModel", "sealHolds", "(I)Z"⟩, 34) := ⟨⟨by decide +kernel, by decide +kernel⟩, List.mem_of_getElem? (i := 641) (by decide +kernel), List.mem_of_getElem? (i := 930) (by decide +kernel), List.mem_of_getElem? (i := 931) (by decide +kernel)⟩
theorem lw_p41 : lw_okq (⟨"ThinkingFormModel", "shows", "(I)Z"⟩, 34) := ⟨⟨by decide +kernel, by decide +kernel⟩, List.mem_of_getElem? (i := 641) (by decide +kernel), List.mem_of_getElem? (i := 940) (by decide +kernel), List.mem_of_getElem? (i := 941) (by decide +kernel)⟩
theorem lw_p42 : lw_okq (⟨"ThinkingFormModel", "goesOn", "(I)Z"⟩, 34) := ⟨⟨by decide +kernel, by decide +kernel⟩, List.mem_of_getElem? (i := 641) (by decide +kernel), List.mem_of_getElem? (i := 944) (by decide +kernel), List.mem_of_getElem? (i := 945) (by decide +kernel)⟩
theorem lw_p43 : lw_okq (⟨"ThinkingFormModel", "asked", "()I"⟩, 34) := ⟨⟨by decide +kernel, by decide +kernel⟩, List.mem_of_getElem? (i := 641) (by decide +kernel), List.mem_of_getElem? (i := 960) (by decide +kernel), List.mem_of_getElem? (i := 961) (by decide +kernel)⟩
theorem lw_p44 : lw_okq (⟨"ThinkingFormModel", "traced", "(I)V"⟩, 34) := ⟨⟨by decide +kernel, by decide +kernel⟩, List.mem_of_getElem? (i := 641) (by decide +kernel), List.mem_of_getElem? (i := 968) (by decide +kernel), List.mem_of_getElem? (i := 969) (by decide +kernel)⟩
def lw_privs_3 : List (MethodName × Nat) := [(⟨"ThinkingFormModel", "layDraft", "(I)V"⟩, 34), (⟨"ThinkingFormModel", "judge", "(I)V"⟩, 34), (⟨"ThinkingFormModel", "workAll", "(J)V"⟩, 34), (⟨"ThinkingFormModel", "work", "(I)V"⟩, 34), (⟨"ThinkingFormModel", "isSo", "(I)Z"⟩, 34), (⟨"ThinkingFormModel", "statusOf", "(I)I"⟩, 34), (⟨"ThinkingFormModel", "hasLocked", "(I)Z"⟩, 34), (⟨"ThinkingFormModel", "noSeal", "(I)Z"⟩, 34), (⟨"ThinkingFormModel", "sealHolds", "(I)Z"⟩, 34), (⟨"ThinkingFormModel", "shows", "(I)Z"⟩, 34), (⟨"ThinkingFormModel", "goesOn", "(I)Z"⟩, 34), (⟨"ThinkingFormModel", "asked", "()I"⟩, 34), (⟨"ThinkingFormModel", "traced", "(I)V"⟩, 34)]
theorem lw_r3 : ∀ q ∈ lw_privs_3, lw_okq q := List.forall_mem_cons.mpr ⟨lw_p32, List.forall_mem_cons.mpr ⟨lw_p33, List.forall_mem_cons.mpr ⟨lw_p34, List.forall_mem_cons.mpr ⟨lw_p35, List.forall_mem_cons.mpr ⟨lw_p36, List.forall_mem_cons.mpr ⟨lw_p37, List.forall_mem_cons.mpr ⟨lw_p38, List.forall_mem_cons.mpr ⟨lw_p39, List.forall_mem_cons.mpr ⟨lw_p40, List.forall_mem_cons.mpr ⟨lw_p41, List.forall_mem_cons.mpr ⟨lw_p42, List.forall_mem_cons.mpr ⟨lw_p43, List.forall_mem_cons.mpr ⟨lw_p44, fun _ h => absurd h List.not_mem_nil⟩⟩⟩⟩⟩⟩⟩⟩⟩⟩⟩⟩⟩
def lw_privs : List (MethodName × Nat) := lw_privs_1 ++ (lw_privs_2 ++ (lw_privs_3))
def lw_tbl : List Cond := k2_sels lw_privs ++ tables_1
theorem lw_privs_ok : ∀ q ∈ lw_privs, lw_okq q := by
  show ∀ q ∈ lw_privs_1 ++ (lw_privs_2 ++ (lw_privs_3)), lw_okq q
  exact List.forall_mem_append.mpr ⟨lw_r1, List.forall_mem_append.mpr ⟨lw_r2, lw_r3⟩⟩
end
section
def RX0 : String := "ThinkingForm$Fields"
def TX0 : u_T := fun k => match k with
  | 0 => ("ThinkingForm$Fields", "low", "[I", true)
  | 1 => ("ThinkingForm$Fields", "high", "[I", true)
  | 2 => ("ThinkingForm$Fields", "made", "[Z", true)
  | 3 => ("ThinkingForm$Fields", "rules", "[[I", true)
  | 4 => ("ThinkingForm$Fields", "direct", "[I", true)
  | 5 => ("ThinkingForm$Fields", "hangs", "[I", true)
  | _ => ("ThinkingForm$Fields", "count", "I", false)
def tyX0 : Nat → FieldType := fun k => match k with
  | 0 => .array .int
  | 1 => .array .int
  | 2 => .array .boolean
  | 3 => .array (.array .int)
  | 4 => .array .int
  | 5 => .array .int
  | _ => .int
abbrev wsX00 : List Cond := u_ws RX0 TX0 7
theorem nmX0 : ∀ a, a < 7 → ∀ b, b < 7 → a ≠ b → (TX0 a).2.1 ≠ (TX0 b).2.1 := by decide +kernel
theorem tyX0_ok : ∀ k, k < 7 → parseFieldDescriptor (TX0 k).2.2.1 = some (tyX0 k) := by decide +kernel
abbrev cX0_init : ByteArray := prog_2_method_1_code
def yX0_init : MethodName := ⟨RX0, "<init>", "()V"⟩
abbrev cX0_has : ByteArray := prog_2_method_2_code
def yX0_has : MethodName := ⟨RX0, "has", "(I)Z"⟩
abbrev cX0_add : ByteArray := prog_2_method_3_code
def yX0_add : MethodName := ⟨RX0, "add", "(IIZ)I"⟩
abbrev cX0_inSpan : ByteArray := prog_2_method_4_code
def yX0_inSpan : MethodName := ⟨RX0, "inSpan", "(II)Z"⟩
abbrev cX0_askedBits : ByteArray := prog_2_method_5_code
def yX0_askedBits : MethodName := ⟨RX0, "askedBits", "()I"⟩
abbrev cX0_hangersOn : ByteArray := prog_2_method_6_code
def yX0_hangersOn : MethodName := ⟨RX0, "hangersOn", "(I)I"⟩
abbrev cX0_spread : ByteArray := prog_2_method_7_code
def yX0_spread : MethodName := ⟨RX0, "spread", "(I)I"⟩
abbrev cX0_spreadHangs : ByteArray := prog_2_method_8_code
def yX0_spreadHangs : MethodName := ⟨RX0, "spreadHangs", "()V"⟩
abbrev cX0_leastHanging : ByteArray := prog_2_method_9_code
def yX0_leastHanging : MethodName := ⟨RX0, "leastHanging", "(II)I"⟩
def RX1 : String := "ThinkingForm$Joining"
def TX1 : u_T := fun k => match k with
  | 0 => ("ThinkingForm$Joining", "atOdds", "[I", true)
  | _ => ("ThinkingForm$Joining", "count", "I", false)
def tyX1 : Nat → FieldType := fun k => match k with
  | 0 => .array .int
  | _ => .int
abbrev wsX10 : List Cond := u_ws RX1 TX1 2
theorem nmX1 : ∀ a, a < 2 → ∀ b, b < 2 → a ≠ b → (TX1 a).2.1 ≠ (TX1 b).2.1 := by decide +kernel
theorem tyX1_ok : ∀ k, k < 2 → parseFieldDescriptor (TX1 k).2.2.1 = some (tyX1 k) := by decide +kernel
abbrev cX1_init : ByteArray := prog_3_method_1_code
def yX1_init : MethodName := ⟨RX1, "<init>", "()V"⟩
abbrev cX1_begin : ByteArray := prog_3_method_2_code
def yX1_begin : MethodName := ⟨RX1, "begin", "()V"⟩
abbrev cX1_joinOne : ByteArray := prog_3_method_3_code
def yX1_joinOne : MethodName := ⟨RX1, "joinOne", "(IIII)I"⟩
def RX2 : String := "ThinkingForm$Net"
def TX2 : u_T := fun k => match k with
  | 0 => ("ThinkingForm$Net", "fields", "LThinkingForm$Fields;", true)
  | 1 => ("ThinkingForm$Net", "parts", "LThinkingForm$Parts;", true)
  | 2 => ("ThinkingForm$Net", "steps", "[I", true)
  | 3 => ("ThinkingForm$Net", "movers", "[I", true)
  | 4 => ("ThinkingForm$Net", "rests", "[I", true)
  | _ => ("ThinkingForm$Net", "stepCount", "I", false)
def tyX2 : Nat → FieldType := fun k => match k with
  | 0 => .object "ThinkingForm$Fields"
  | 1 => .object "ThinkingForm$Parts"
  | 2 => .array .int
  | 3 => .array .int
  | 4 => .array .int
  | _ => .int
abbrev wsX20 : List Cond := u_ws RX2 TX2 6
theorem nmX2 : ∀ a, a < 6 → ∀ b, b < 6 → a ≠ b → (TX2 a).2.1 ≠ (TX2 b).2.1 := by decide +kernel
theorem tyX2_ok : ∀ k, k < 6 → parseFieldDescriptor (TX2 k).2.2.1 = some (tyX2 k) := by decide +kernel
abbrev cX2_init : ByteArray := prog_4_method_1_code
def yX2_init : MethodName := ⟨RX2, "<init>", "()V"⟩
abbrev cX2_directWith : ByteArray := prog_4_method_2_code
def yX2_directWith : MethodName := ⟨RX2, "directWith", "(III)I"⟩
abbrev cX2_setRule : ByteArray := prog_4_method_3_code
def yX2_setRule : MethodName := ⟨RX2, "setRule", "(III)V"⟩
abbrev cX2_arrange : ByteArray := prog_4_method_4_code
def yX2_arrange : MethodName := ⟨RX2, "arrange", "()V"⟩
abbrev cX2_addStep : ByteArray := prog_4_method_5_code
def yX2_addStep : MethodName := ⟨RX2, "addStep", "(II)V"⟩
def RX3 : String := "ThinkingForm$Parts"
def TX3 : u_T := fun k => match k with
  | 0 => ("ThinkingForm$Parts", "kind", "[I", true)
  | 1 => ("ThinkingForm$Parts", "a", "[I", true)
  | 2 => ("ThinkingForm$Parts", "b", "[I", true)
  | 3 => ("ThinkingForm$Parts", "c", "[I", true)
  | 4 => ("ThinkingForm$Parts", "answersOf", "[I", true)
  | _ => ("ThinkingForm$Parts", "count", "I", false)
def tyX3 : Nat → FieldType := fun k => match k with
  | 0 => .array .int
  | 1 => .array .int
  | 2 => .array .int
  | 3 => .array .int
  | 4 => .array .int
  | _ => .int
abbrev wsX30 : List Cond := u_ws RX3 TX3 6
theorem nmX3 : ∀ a, a < 6 → ∀ b, b < 6 → a ≠ b → (TX3 a).2.1 ≠ (TX3 b).2.1 := by decide +kernel
theorem tyX3_ok : ∀ k, k < 6 → parseFieldDescriptor (TX3 k).2.2.1 = some (tyX3 k) := by decide +kernel
abbrev cX3_init : ByteArray := prog_5_method_1_code
def yX3_init : MethodName := ⟨RX3, "<init>", "()V"⟩
abbrev cX3_has : ByteArray := prog_5_method_2_code
def yX3_has : MethodName := ⟨RX3, "has", "(I)Z"⟩
abbrev cX3_add : ByteArray := prog_5_method_3_code
def yX3_add : MethodName := ⟨RX3, "add", "(IIII)I"⟩
abbrev cX3_answersOfRule : ByteArray := prog_5_method_4_code
def yX3_answersOfRule : MethodName := ⟨RX3, "answersOfRule", "(I)I"⟩
abbrev cX3_gatherAnswers : ByteArray := prog_5_method_5_code
def yX3_gatherAnswers : MethodName := ⟨RX3, "gatherAnswers", "(I)I"⟩
def RX4 : String := "ThinkingForm$Ring"
def TX4 : u_T := fun k => match k with
  | 0 => ("ThinkingForm$Ring", "members", "[I", true)
  | _ => ("ThinkingForm$Ring", "count", "I", false)
def tyX4 : Nat → FieldType := fun k => match k with
  | 0 => .array .int
  | _ => .int
abbrev wsX40 : List Cond := u_ws RX4 TX4 2
theorem nmX4 : ∀ a, a < 2 → ∀ b, b < 2 → a ≠ b → (TX4 a).2.1 ≠ (TX4 b).2.1 := by decide +kernel
theorem tyX4_ok : ∀ k, k < 2 → parseFieldDescriptor (TX4 k).2.2.1 = some (tyX4 k) := by decide +kernel
abbrev cX4_init : ByteArray := prog_6_method_1_code
def yX4_init : MethodName := ⟨RX4, "<init>", "()V"⟩
abbrev cX4_follow : ByteArray := prog_6_method_2_code
def yX4_follow : MethodName := ⟨RX4, "follow", "(LThinkingForm$Fields;II)V"⟩
def RX5 : String := "ThinkingForm$Seals"
def TX5 : u_T := fun k => match k with
  | 0 => ("ThinkingForm$Seals", "draft", "[I", true)
  | 1 => ("ThinkingForm$Seals", "fields", "[I", true)
  | 2 => ("ThinkingForm$Seals", "broken", "[Z", true)
  | 3 => ("ThinkingForm$Seals", "answers", "[[I", true)
  | 4 => ("ThinkingForm$Seals", "statuses", "[[I", true)
  | _ => ("ThinkingForm$Seals", "count", "I", false)
def tyX5 : Nat → FieldType := fun k => match k with
  | 0 => .array .int
  | 1 => .array .int
  | 2 => .array .boolean
  | 3 => .array (.array .int)
  | 4 => .array (.array .int)
  | _ => .int
abbrev wsX50 : List Cond := u_ws RX5 TX5 6
theorem nmX5 : ∀ a, a < 6 → ∀ b, b < 6 → a ≠ b → (TX5 a).2.1 ≠ (TX5 b).2.1 := by decide +kernel
theorem tyX5_ok : ∀ k, k < 6 → parseFieldDescriptor (TX5 k).2.2.1 = some (tyX5 k) := by decide +kernel
abbrev cX5_init : ByteArray := prog_7_method_1_code
def yX5_init : MethodName := ⟨RX5, "<init>", "()V"⟩
abbrev cX5_has : ByteArray := prog_7_method_2_code
def yX5_has : MethodName := ⟨RX5, "has", "(I)Z"⟩
abbrev cX5_add : ByteArray := prog_7_method_3_code
def yX5_add : MethodName := ⟨RX5, "add", "(II[ILThinkingForm$Fields;LThinkingForm$Sight;)I"⟩
abbrev cX5_unbrokenBits : ByteArray := prog_7_method_4_code
def yX5_unbrokenBits : MethodName := ⟨RX5, "unbrokenBits", "(I)I"⟩
abbrev cX5_agrees : ByteArray := prog_7_method_5_code
def yX5_agrees : MethodName := ⟨RX5, "agrees", "(ILThinkingForm$Fields;LThinkingForm$Sight;)Z"⟩
def RX6 : String := "ThinkingForm$Sight"
def TX6 : u_T := fun k => match k with
  | 0 => ("ThinkingForm$Sight", "values", "[I", true)
  | 1 => ("ThinkingForm$Sight", "shown", "[Z", true)
  | _ => ("ThinkingForm$Sight", "counted", "[I", true)
def tyX6 : Nat → FieldType := fun k => match k with
  | 0 => .array .int
  | 1 => .array .boolean
  | _ => .array .int
abbrev wsX60 : List Cond := u_ws RX6 TX6 3
theorem nmX6 : ∀ a, a < 3 → ∀ b, b < 3 → a ≠ b → (TX6 a).2.1 ≠ (TX6 b).2.1 := by decide +kernel
theorem tyX6_ok : ∀ k, k < 3 → parseFieldDescriptor (TX6 k).2.2.1 = some (tyX6 k) := by decide +kernel
abbrev cX6_init : ByteArray := prog_8_method_1_code
def yX6_init : MethodName := ⟨RX6, "<init>", "()V"⟩
abbrev cX6_look : ByteArray := prog_8_method_2_code
def yX6_look : MethodName := ⟨RX6, "look", "(LThinkingForm$Net;[I)V"⟩
abbrev cX6_lookAgain : ByteArray := prog_8_method_3_code
def yX6_lookAgain : MethodName := ⟨RX6, "lookAgain", "(LThinkingForm$Net;[II)V"⟩
abbrev cX6_valueOf : ByteArray := prog_8_method_4_code
def yX6_valueOf : MethodName := ⟨RX6, "valueOf", "(I)I"⟩
abbrev cX6_statusOf : ByteArray := prog_8_method_5_code
def yX6_statusOf : MethodName := ⟨RX6, "statusOf", "(LThinkingForm$Fields;I)I"⟩
abbrev cX6_takeStep : ByteArray := prog_8_method_6_code
def yX6_takeStep : MethodName := ⟨RX6, "takeStep", "(LThinkingForm$Net;[II)V"⟩
abbrev cX6_takeField : ByteArray := prog_8_method_7_code
def yX6_takeField : MethodName := ⟨RX6, "takeField", "(LThinkingForm$Fields;[II)V"⟩
abbrev cX6_workOut : ByteArray := prog_8_method_8_code
def yX6_workOut : MethodName := ⟨RX6, "workOut", "(LThinkingForm$Parts;I)I"⟩
abbrev cX6_workOutPair : ByteArray := prog_8_method_9_code
def yX6_workOutPair : MethodName := ⟨RX6, "workOutPair", "(III)I"⟩
abbrev cX6_cut : ByteArray := prog_8_method_10_code
def yX6_cut : MethodName := ⟨RX6, "cut", "(J)I"⟩
def RX7 : String := "ThinkingForm$Telling"
def TX7 : u_T := fun k => match k with
  | _ => ("ThinkingForm$Telling", "trail", "I", false)
def tyX7 : Nat → FieldType := fun k => match k with
  | _ => .int
abbrev wsX70 : List Cond := u_ws RX7 TX7 1
theorem nmX7 : ∀ a, a < 1 → ∀ b, b < 1 → a ≠ b → (TX7 a).2.1 ≠ (TX7 b).2.1 := by decide +kernel
theorem tyX7_ok : ∀ k, k < 1 → parseFieldDescriptor (TX7 k).2.2.1 = some (tyX7 k) := by decide +kernel
abbrev cX7_init : ByteArray := prog_9_method_1_code
def yX7_init : MethodName := ⟨RX7, "<init>", "()V"⟩
abbrev cX7_tellOne : ByteArray := prog_9_method_2_code
def yX7_tellOne : MethodName := ⟨RX7, "tellOne", "(LThinkingForm$Fields;I)I"⟩
abbrev cX7_addressOne : ByteArray := prog_9_method_3_code
def yX7_addressOne : MethodName := ⟨RX7, "addressOne", "(LThinkingForm$Fields;I)I"⟩
abbrev cX7_leave : ByteArray := prog_9_method_4_code
def yX7_leave : MethodName := ⟨RX7, "leave", "(I)V"⟩
abbrev cX7_tellPlain : ByteArray := prog_9_method_5_code
def yX7_tellPlain : MethodName := ⟨RX7, "tellPlain", "(LThinkingForm$Fields;I)I"⟩
abbrev cX7_tellAsked : ByteArray := prog_9_method_6_code
def yX7_tellAsked : MethodName := ⟨RX7, "tellAsked", "(LThinkingForm$Fields;I)I"⟩
abbrev cX7_tellMade : ByteArray := prog_9_method_7_code
def yX7_tellMade : MethodName := ⟨RX7, "tellMade", "(LThinkingForm$Fields;I)I"⟩
abbrev cX7_tellNeeded : ByteArray := prog_9_method_8_code
def yX7_tellNeeded : MethodName := ⟨RX7, "tellNeeded", "(LThinkingForm$Fields;I)I"⟩
abbrev cX7_addressLent : ByteArray := prog_9_method_9_code
def yX7_addressLent : MethodName := ⟨RX7, "addressLent", "(I)I"⟩
abbrev cX7_addressMade : ByteArray := prog_9_method_10_code
def yX7_addressMade : MethodName := ⟨RX7, "addressMade", "()I"⟩
def RX8 : String := "ThinkingForm$Trial"
def TX8 : u_T := fun k => match k with
  | 0 => ("ThinkingForm$Trial", "row", "[I", true)
  | 1 => ("ThinkingForm$Trial", "turning", "[I", true)
  | 2 => ("ThinkingForm$Trial", "sight", "LThinkingForm$Sight;", true)
  | 3 => ("ThinkingForm$Trial", "turningCount", "I", false)
  | _ => ("ThinkingForm$Trial", "rowsTried", "I", false)
def tyX8 : Nat → FieldType := fun k => match k with
  | 0 => .array .int
  | 1 => .array .int
  | 2 => .object "ThinkingForm$Sight"
  | 3 => .int
  | _ => .int
abbrev wsX80 : List Cond := u_ws RX8 TX8 5
theorem nmX8 : ∀ a, a < 5 → ∀ b, b < 5 → a ≠ b → (TX8 a).2.1 ≠ (TX8 b).2.1 := by decide +kernel
theorem tyX8_ok : ∀ k, k < 5 → parseFieldDescriptor (TX8 k).2.2.1 = some (tyX8 k) := by decide +kernel
abbrev cX8_init : ByteArray := prog_10_method_1_code
def yX8_init : MethodName := ⟨RX8, "<init>", "()V"⟩
abbrev cX8_run : ByteArray := prog_10_method_2_code
def yX8_run : MethodName := ⟨RX8, "run", "(LThinkingForm$Net;I)I"⟩
abbrev cX8_countRows : ByteArray := prog_10_method_3_code
def yX8_countRows : MethodName := ⟨RX8, "countRows", "(LThinkingForm$Fields;I)I"⟩
abbrev cX8_listTurning : ByteArray := prog_10_method_4_code
def yX8_listTurning : MethodName := ⟨RX8, "listTurning", "(I)V"⟩
abbrev cX8_turnRow : ByteArray := prog_10_method_5_code
def yX8_turnRow : MethodName := ⟨RX8, "turnRow", "(LThinkingForm$Fields;)I"⟩
def RX9 : String := "ThinkingForm"
def TX9 : u_T := fun k => match k with
  | 0 => ("ThinkingForm", "net", "LThinkingForm$Net;", true)
  | 1 => ("ThinkingForm", "ring", "LThinkingForm$Ring;", true)
  | 2 => ("ThinkingForm", "drafts", "[[I", true)
  | 3 => ("ThinkingForm", "sight", "LThinkingForm$Sight;", true)
  | 4 => ("ThinkingForm", "joining", "LThinkingForm$Joining;", true)
  | 5 => ("ThinkingForm", "seals", "LThinkingForm$Seals;", true)
  | 6 => ("ThinkingForm", "trial", "LThinkingForm$Trial;", true)
  | _ => ("ThinkingForm", "telling", "LThinkingForm$Telling;", true)
def tyX9 : Nat → FieldType := fun k => match k with
  | 0 => .object "ThinkingForm$Net"
  | 1 => .object "ThinkingForm$Ring"
  | 2 => .array (.array .int)
  | 3 => .object "ThinkingForm$Sight"
  | 4 => .object "ThinkingForm$Joining"
  | 5 => .object "ThinkingForm$Seals"
  | 6 => .object "ThinkingForm$Trial"
  | _ => .object "ThinkingForm$Telling"
abbrev wsX90 : List Cond := u_ws RX9 TX9 8
theorem nmX9 : ∀ a, a < 8 → ∀ b, b < 8 → a ≠ b → (TX9 a).2.1 ≠ (TX9 b).2.1 := by decide +kernel
theorem tyX9_ok : ∀ k, k < 8 → parseFieldDescriptor (TX9 k).2.2.1 = some (tyX9 k) := by decide +kernel
abbrev cX9_init : ByteArray := prog_1_method_1_code
def yX9_init : MethodName := ⟨RX9, "<init>", "()V"⟩
abbrev cX9_field : ByteArray := prog_1_method_2_code
def yX9_field : MethodName := ⟨RX9, "field", "(III)I"⟩
abbrev cX9_part : ByteArray := prog_1_method_3_code
def yX9_part : MethodName := ⟨RX9, "part", "(IIII)I"⟩
abbrev cX9_rule : ByteArray := prog_1_method_4_code
def yX9_rule : MethodName := ⟨RX9, "rule", "(III)I"⟩
abbrev cX9_ring : ByteArray := prog_1_method_5_code
def yX9_ring : MethodName := ⟨RX9, "ring", "(I)I"⟩
abbrev cX9_about : ByteArray := prog_1_method_6_code
def yX9_about : MethodName := ⟨RX9, "about", "(II)I"⟩
abbrev cX9_hangs : ByteArray := prog_1_method_7_code
def yX9_hangs : MethodName := ⟨RX9, "hangs", "(II)I"⟩
abbrev cX9_answer : ByteArray := prog_1_method_8_code
def yX9_answer : MethodName := ⟨RX9, "answer", "(III)I"⟩
abbrev cX9_clear : ByteArray := prog_1_method_9_code
def yX9_clear : MethodName := ⟨RX9, "clear", "(II)I"⟩
abbrev cX9_kept : ByteArray := prog_1_method_10_code
def yX9_kept : MethodName := ⟨RX9, "kept", "(II)I"⟩
abbrev cX9_counts : ByteArray := prog_1_method_11_code
def yX9_counts : MethodName := ⟨RX9, "counts", "(II)I"⟩
abbrev cX9_status : ByteArray := prog_1_method_12_code
def yX9_status : MethodName := ⟨RX9, "status", "(II)I"⟩
abbrev cX9_done : ByteArray := prog_1_method_13_code
def yX9_done : MethodName := ⟨RX9, "done", "(I)I"⟩
abbrev cX9_value : ByteArray := prog_1_method_14_code
def yX9_value : MethodName := ⟨RX9, "value", "(II)I"⟩
abbrev cX9_copy : ByteArray := prog_1_method_15_code
def yX9_copy : MethodName := ⟨RX9, "copy", "(II)I"⟩
abbrev cX9_join : ByteArray := prog_1_method_16_code
def yX9_join : MethodName := ⟨RX9, "join", "(IIII)I"⟩
abbrev cX9_odds : ByteArray := prog_1_method_17_code
def yX9_odds : MethodName := ⟨RX9, "odds", "(I)I"⟩
abbrev cX9_seal : ByteArray := prog_1_method_18_code
def yX9_seal : MethodName := ⟨RX9, "seal", "(II)I"⟩
abbrev cX9_open : ByteArray := prog_1_method_19_code
def yX9_open : MethodName := ⟨RX9, "open", "(I)I"⟩
abbrev cX9_sealed : ByteArray := prog_1_method_20_code
def yX9_sealed : MethodName := ⟨RX9, "sealed", "(II)I"⟩
abbrev cX9_reach : ByteArray := prog_1_method_21_code
def yX9_reach : MethodName := ⟨RX9, "reach", "(I)I"⟩
abbrev cX9_found : ByteArray := prog_1_method_22_code
def yX9_found : MethodName := ⟨RX9, "found", "(I)I"⟩
abbrev cX9_tried : ByteArray := prog_1_method_23_code
def yX9_tried : MethodName := ⟨RX9, "tried", "()I"⟩
abbrev cX9_told : ByteArray := prog_1_method_24_code
def yX9_told : MethodName := ⟨RX9, "told", "(I)I"⟩
abbrev cX9_tell : ByteArray := prog_1_method_25_code
def yX9_tell : MethodName := ⟨RX9, "tell", "(I)I"⟩
abbrev cX9_address : ByteArray := prog_1_method_26_code
def yX9_address : MethodName := ⟨RX9, "address", "(I)I"⟩
abbrev cX9_trace : ByteArray := prog_1_method_27_code
def yX9_trace : MethodName := ⟨RX9, "trace", "()I"⟩
abbrev cX9_knowsOperands : ByteArray := prog_1_method_28_code
def yX9_knowsOperands : MethodName := ⟨RX9, "knowsOperands", "(IIII)Z"⟩
abbrev cX9_hasDraft : ByteArray := prog_1_method_29_code
def yX9_hasDraft : MethodName := ⟨RX9, "hasDraft", "(I)Z"⟩
abbrev cX9_hasPlace : ByteArray := prog_1_method_30_code
def yX9_hasPlace : MethodName := ⟨RX9, "hasPlace", "(II)Z"⟩
abbrev cX9_lockedBits : ByteArray := prog_1_method_31_code
def yX9_lockedBits : MethodName := ⟨RX9, "lockedBits", "(I)I"⟩
abbrev cX9_isHolding : ByteArray := prog_1_method_32_code
def yX9_isHolding : MethodName := ⟨RX9, "isHolding", "(I)Z"⟩
abbrev cX9_countHolding : ByteArray := prog_1_method_33_code
def yX9_countHolding : MethodName := ⟨RX9, "countHolding", "()I"⟩
abbrev cX9_countAnswers : ByteArray := prog_1_method_34_code
def yX9_countAnswers : MethodName := ⟨RX9, "countAnswers", "(I)I"⟩
abbrev cX9_hasBit : ByteArray := prog_1_method_35_code
def yX9_hasBit : MethodName := ⟨RX9, "hasBit", "(II)Z"⟩
abbrev cX9_truth : ByteArray := prog_1_method_36_code
def yX9_truth : MethodName := ⟨RX9, "truth", "(Z)I"⟩
abbrev cX9_isYes : ByteArray := prog_1_method_37_code
def yX9_isYes : MethodName := ⟨RX9, "isYes", "(I)Z"⟩
def RX10 : String := "ThinkingFormModel"
def TX10 : u_T := fun k => match k with
  | 0 => ("ThinkingFormModel", "fields", "I", false)
  | 1 => ("ThinkingFormModel", "low", "[I", true)
  | 2 => ("ThinkingFormModel", "high", "[I", true)
  | 3 => ("ThinkingFormModel", "kind", "[I", true)
  | 4 => ("ThinkingFormModel", "rules", "[I", true)
  | 5 => ("ThinkingFormModel", "parts", "I", false)
  | 6 => ("ThinkingFormModel", "sort", "[I", true)
  | 7 => ("ThinkingFormModel", "one", "[I", true)
  | 8 => ("ThinkingFormModel", "two", "[I", true)
  | 9 => ("ThinkingFormModel", "three", "[I", true)
  | 10 => ("ThinkingFormModel", "isOrdered", "Z", false)
  | 11 => ("ThinkingFormModel", "direct", "[I", true)
  | 12 => ("ThinkingFormModel", "hang", "[I", true)
  | 13 => ("ThinkingFormModel", "needs", "[J", true)
  | 14 => ("ThinkingFormModel", "order", "[I", true)
  | 15 => ("ThinkingFormModel", "ringMany", "I", false)
  | 16 => ("ThinkingFormModel", "ring", "[I", true)
  | 17 => ("ThinkingFormModel", "row", "[I", true)
  | 18 => ("ThinkingFormModel", "isShown", "[Z", true)
  | 19 => ("ThinkingFormModel", "has", "[I", true)
  | 20 => ("ThinkingFormModel", "counted", "[I", true)
  | 21 => ("ThinkingFormModel", "values", "[I", true)
  | 22 => ("ThinkingFormModel", "answers", "[I", true)
  | 23 => ("ThinkingFormModel", "oddMany", "I", false)
  | 24 => ("ThinkingFormModel", "odd", "[I", true)
  | 25 => ("ThinkingFormModel", "seals", "I", false)
  | 26 => ("ThinkingFormModel", "sealDraft", "[I", true)
  | 27 => ("ThinkingFormModel", "sealFields", "[I", true)
  | 28 => ("ThinkingFormModel", "isBroken", "[Z", true)
  | 29 => ("ThinkingFormModel", "sealAnswer", "[I", true)
  | 30 => ("ThinkingFormModel", "sealStatus", "[I", true)
  | 31 => ("ThinkingFormModel", "tried", "I", false)
  | 32 => ("ThinkingFormModel", "trial", "[I", true)
  | _ => ("ThinkingFormModel", "trace", "I", false)
def tyX10 : Nat → FieldType := fun k => match k with
  | 0 => .int
  | 1 => .array .int
  | 2 => .array .int
  | 3 => .array .int
  | 4 => .array .int
  | 5 => .int
  | 6 => .array .int
  | 7 => .array .int
  | 8 => .array .int
  | 9 => .array .int
  | 10 => .boolean
  | 11 => .array .int
  | 12 => .array .int
  | 13 => .array .long
  | 14 => .array .int
  | 15 => .int
  | 16 => .array .int
  | 17 => .array .int
  | 18 => .array .boolean
  | 19 => .array .int
  | 20 => .array .int
  | 21 => .array .int
  | 22 => .array .int
  | 23 => .int
  | 24 => .array .int
  | 25 => .int
  | 26 => .array .int
  | 27 => .array .int
  | 28 => .array .boolean
  | 29 => .array .int
  | 30 => .array .int
  | 31 => .int
  | 32 => .array .int
  | _ => .int
abbrev wsX100 : List Cond := u_ws RX10 TX10 34
theorem nmX10 : ∀ a, a < 34 → ∀ b, b < 34 → a ≠ b → (TX10 a).2.1 ≠ (TX10 b).2.1 := by decide +kernel
theorem tyX10_ok : ∀ k, k < 34 → parseFieldDescriptor (TX10 k).2.2.1 = some (tyX10 k) := by decide +kernel
abbrev cX10_init : ByteArray := prog_12_method_1_code
def yX10_init : MethodName := ⟨RX10, "<init>", "()V"⟩
abbrev cX10_in : ByteArray := prog_12_method_2_code
def yX10_in : MethodName := ⟨RX10, "in", "(III)Z"⟩
abbrev cX10_noField : ByteArray := prog_12_method_3_code
def yX10_noField : MethodName := ⟨RX10, "noField", "(I)Z"⟩
abbrev cX10_noPart : ByteArray := prog_12_method_4_code
def yX10_noPart : MethodName := ⟨RX10, "noPart", "(I)Z"⟩
abbrev cX10_field : ByteArray := prog_12_method_5_code
def yX10_field : MethodName := ⟨RX10, "field", "(III)I"⟩
abbrev cX10_partsOf : ByteArray := prog_12_method_6_code
def yX10_partsOf : MethodName := ⟨RX10, "partsOf", "(I)I"⟩
abbrev cX10_isOfField : ByteArray := prog_12_method_7_code
def yX10_isOfField : MethodName := ⟨RX10, "isOfField", "(I)Z"⟩
abbrev cX10_part : ByteArray := prog_12_method_8_code
def yX10_part : MethodName := ⟨RX10, "part", "(IIII)I"⟩
abbrev cX10_reached : ByteArray := prog_12_method_9_code
def yX10_reached : MethodName := ⟨RX10, "reached", "(I)J"⟩
abbrev cX10_fieldsOf : ByteArray := prog_12_method_10_code
def yX10_fieldsOf : MethodName := ⟨RX10, "fieldsOf", "(J)I"⟩
abbrev cX10_needsOf : ByteArray := prog_12_method_11_code
def yX10_needsOf : MethodName := ⟨RX10, "needsOf", "(I)J"⟩
abbrev cX10_count : ByteArray := prog_12_method_12_code
def yX10_count : MethodName := ⟨RX10, "count", "(I)I"⟩
abbrev cX10_findHangs : ByteArray := prog_12_method_13_code
def yX10_findHangs : MethodName := ⟨RX10, "findHangs", "()V"⟩
abbrev cX10_arrange : ByteArray := prog_12_method_14_code
def yX10_arrange : MethodName := ⟨RX10, "arrange", "()V"⟩
abbrev cX10_comesTo : ByteArray := prog_12_method_15_code
def yX10_comesTo : MethodName := ⟨RX10, "comesTo", "(III)Z"⟩
abbrev cX10_findRing : ByteArray := prog_12_method_16_code
def yX10_findRing : MethodName := ⟨RX10, "findRing", "(I)V"⟩
abbrev cX10_rule : ByteArray := prog_12_method_17_code
def yX10_rule : MethodName := ⟨RX10, "rule", "(III)I"⟩
abbrev cX10_ring : ByteArray := prog_12_method_18_code
def yX10_ring : MethodName := ⟨RX10, "ring", "(I)I"⟩
abbrev cX10_about : ByteArray := prog_12_method_19_code
def yX10_about : MethodName := ⟨RX10, "about", "(II)I"⟩
abbrev cX10_followers : ByteArray := prog_12_method_20_code
def yX10_followers : MethodName := ⟨RX10, "followers", "(I)I"⟩
abbrev cX10_hangs : ByteArray := prog_12_method_21_code
def yX10_hangs : MethodName := ⟨RX10, "hangs", "(II)I"⟩
abbrev cX10_cut : ByteArray := prog_12_method_22_code
def yX10_cut : MethodName := ⟨RX10, "cut", "(J)I"⟩
abbrev cX10_ofTwo : ByteArray := prog_12_method_23_code
def yX10_ofTwo : MethodName := ⟨RX10, "ofTwo", "(III)I"⟩
abbrev cX10_work : ByteArray := prog_12_method_24_code
def yX10_work : MethodName := ⟨RX10, "work", "(I)V"⟩
abbrev cX10_workAll : ByteArray := prog_12_method_25_code
def yX10_workAll : MethodName := ⟨RX10, "workAll", "(J)V"⟩
abbrev cX10_isSo : ByteArray := prog_12_method_26_code
def yX10_isSo : MethodName := ⟨RX10, "isSo", "(I)Z"⟩
abbrev cX10_judge : ByteArray := prog_12_method_27_code
def yX10_judge : MethodName := ⟨RX10, "judge", "(I)V"⟩
abbrev cX10_layDraft : ByteArray := prog_12_method_28_code
def yX10_layDraft : MethodName := ⟨RX10, "layDraft", "(I)V"⟩
abbrev cX10_noDraft : ByteArray := prog_12_method_29_code
def yX10_noDraft : MethodName := ⟨RX10, "noDraft", "(I)Z"⟩
abbrev cX10_isLocked : ByteArray := prog_12_method_30_code
def yX10_isLocked : MethodName := ⟨RX10, "isLocked", "(II)Z"⟩
abbrev cX10_hasLocked : ByteArray := prog_12_method_31_code
def yX10_hasLocked : MethodName := ⟨RX10, "hasLocked", "(I)Z"⟩
abbrev cX10_answer : ByteArray := prog_12_method_32_code
def yX10_answer : MethodName := ⟨RX10, "answer", "(III)I"⟩
abbrev cX10_clear : ByteArray := prog_12_method_33_code
def yX10_clear : MethodName := ⟨RX10, "clear", "(II)I"⟩
abbrev cX10_kept : ByteArray := prog_12_method_34_code
def yX10_kept : MethodName := ⟨RX10, "kept", "(II)I"⟩
abbrev cX10_counts : ByteArray := prog_12_method_35_code
def yX10_counts : MethodName := ⟨RX10, "counts", "(II)I"⟩
abbrev cX10_statusOf : ByteArray := prog_12_method_36_code
def yX10_statusOf : MethodName := ⟨RX10, "statusOf", "(I)I"⟩
abbrev cX10_status : ByteArray := prog_12_method_37_code
def yX10_status : MethodName := ⟨RX10, "status", "(II)I"⟩
abbrev cX10_done : ByteArray := prog_12_method_38_code
def yX10_done : MethodName := ⟨RX10, "done", "(I)I"⟩
abbrev cX10_value : ByteArray := prog_12_method_39_code
def yX10_value : MethodName := ⟨RX10, "value", "(II)I"⟩
abbrev cX10_copy : ByteArray := prog_12_method_40_code
def yX10_copy : MethodName := ⟨RX10, "copy", "(II)I"⟩
abbrev cX10_join : ByteArray := prog_12_method_41_code
def yX10_join : MethodName := ⟨RX10, "join", "(IIII)I"⟩
abbrev cX10_odds : ByteArray := prog_12_method_42_code
def yX10_odds : MethodName := ⟨RX10, "odds", "(I)I"⟩
abbrev cX10_noSeal : ByteArray := prog_12_method_43_code
def yX10_noSeal : MethodName := ⟨RX10, "noSeal", "(I)Z"⟩
abbrev cX10_seal : ByteArray := prog_12_method_44_code
def yX10_seal : MethodName := ⟨RX10, "seal", "(II)I"⟩
abbrev cX10_open : ByteArray := prog_12_method_45_code
def yX10_open : MethodName := ⟨RX10, "open", "(I)I"⟩
abbrev cX10_sealHolds : ByteArray := prog_12_method_46_code
def yX10_sealHolds : MethodName := ⟨RX10, "sealHolds", "(I)Z"⟩
abbrev cX10_sealed : ByteArray := prog_12_method_47_code
def yX10_sealed : MethodName := ⟨RX10, "sealed", "(II)I"⟩
abbrev cX10_goesOn : ByteArray := prog_12_method_48_code
def yX10_goesOn : MethodName := ⟨RX10, "goesOn", "(I)Z"⟩
abbrev cX10_shows : ByteArray := prog_12_method_49_code
def yX10_shows : MethodName := ⟨RX10, "shows", "(I)Z"⟩
abbrev cX10_reach : ByteArray := prog_12_method_50_code
def yX10_reach : MethodName := ⟨RX10, "reach", "(I)I"⟩
abbrev cX10_found : ByteArray := prog_12_method_51_code
def yX10_found : MethodName := ⟨RX10, "found", "(I)I"⟩
abbrev cX10_tried : ByteArray := prog_12_method_52_code
def yX10_tried : MethodName := ⟨RX10, "tried", "()I"⟩
abbrev cX10_asked : ByteArray := prog_12_method_53_code
def yX10_asked : MethodName := ⟨RX10, "asked", "()I"⟩
abbrev cX10_told : ByteArray := prog_12_method_54_code
def yX10_told : MethodName := ⟨RX10, "told", "(I)I"⟩
abbrev cX10_traced : ByteArray := prog_12_method_55_code
def yX10_traced : MethodName := ⟨RX10, "traced", "(I)V"⟩
abbrev cX10_tell : ByteArray := prog_12_method_56_code
def yX10_tell : MethodName := ⟨RX10, "tell", "(I)I"⟩
abbrev cX10_address : ByteArray := prog_12_method_57_code
def yX10_address : MethodName := ⟨RX10, "address", "(I)I"⟩
abbrev cX10_trace : ByteArray := prog_12_method_58_code
def yX10_trace : MethodName := ⟨RX10, "trace", "()I"⟩
def RJ6 : String := "java/lang/Integer"
def TJ6 : u_T := fun k => match k with
  | _ => ("", "", "", false)
def tyJ6 : Nat → FieldType := fun k => match k with
  | _ => .int
theorem nmJ6 : ∀ a, a < 0 → ∀ b, b < 0 → a ≠ b → (TJ6 a).2.1 ≠ (TJ6 b).2.1 := by decide +kernel
theorem tyJ6_ok : ∀ k, k < 0 → parseFieldDescriptor (TJ6 k).2.2.1 = some (tyJ6 k) := by decide +kernel
abbrev cJ6_bitCount_0f7a4 : ByteArray := prog_13_method_49_code
def yJ6_bitCount_0f7a4 : MethodName := ⟨RJ6, "bitCount", "(I)I"⟩
def RJ7 : String := "java/util/Arrays"
def TJ7 : u_T := fun k => match k with
  | _ => ("", "", "", false)
def tyJ7 : Nat → FieldType := fun k => match k with
  | _ => .int
theorem nmJ7 : ∀ a, a < 0 → ∀ b, b < 0 → a ≠ b → (TJ7 a).2.1 ≠ (TJ7 b).2.1 := by decide +kernel
theorem tyJ7_ok : ∀ k, k < 0 → parseFieldDescriptor (TJ7 k).2.2.1 = some (tyJ7 k) := by decide +kernel
abbrev cJ7_fill_53178 : ByteArray := prog_14_method_103_code
def yJ7_fill_53178 : MethodName := ⟨RJ7, "fill", "([II)V"⟩
def RL : String := "ThinkingFormLaw"
abbrev cL_law : ByteArray := code
def yL_law : MethodName := ⟨RL, "law", "([I)Z"⟩
abbrev vwCl : List vw_C := [(RX0, TX0, 7), (RX1, TX1, 2), (RX2, TX2, 6), (RX3, TX3, 6), (RX4, TX4, 2), (RX5, TX5, 6), (RX6, TX6, 3), (RX7, TX7, 1), (RX8, TX8, 5), (RX9, TX9, 8), (RX10, TX10, 34)]
end
section
theorem dX0_init_0 : decode cX0_init 0 = .ok (.aload_n 0, 1) := by decide +kernel
theorem dX0_init_1 : decode cX0_init 1 = .ok (.invokespecial 3, 3) := by decide +kernel
theorem dX0_init_4 : decode cX0_init 4 = .ok (.aload_n 0, 1) := by decide +kernel
theorem dX0_init_5 : decode cX0_init 5 = .ok (.bipush 12, 2) := by decide +kernel
theorem dX0_init_7 : decode cX0_init 7 = .ok (.newarray .int, 2) := by decide +kernel
theorem dX0_init_9 : decode cX0_init 9 = .ok (.putfield 9, 3) := by decide +kernel
theorem dX0_init_12 : decode cX0_init 12 = .ok (.aload_n 0, 1) := by decide +kernel
theorem dX0_init_13 : decode cX0_init 13 = .ok (.bipush 12, 2) := by decide +kernel
theorem dX0_init_15 : decode cX0_init 15 = .ok (.newarray .int, 2) := by decide +kernel
theorem dX0_init_17 : decode cX0_init 17 = .ok (.putfield 15, 3) := by decide +kernel
theorem dX0_init_20 : decode cX0_init 20 = .ok (.aload_n 0, 1) := by decide +kernel
theorem dX0_init_21 : decode cX0_init 21 = .ok (.bipush 12, 2) := by decide +kernel
theorem dX0_init_23 : decode cX0_init 23 = .ok (.newarray .boolean, 2) := by decide +kernel
theorem dX0_init_25 : decode cX0_init 25 = .ok (.putfield 18, 3) := by decide +kernel
theorem dX0_init_28 : decode cX0_init 28 = .ok (.aload_n 0, 1) := by decide +kernel
theorem dX0_init_29 : decode cX0_init 29 = .ok (.bipush 12, 2) := by decide +kernel
theorem dX0_init_31 : decode cX0_init 31 = .ok (.iconst 4, 1) := by decide +kernel
theorem dX0_init_32 : decode cX0_init 32 = .ok (.multianewarray 22 2, 4) := by decide +kernel
theorem dX0_init_36 : decode cX0_init 36 = .ok (.putfield 24, 3) := by decide +kernel
theorem dX0_init_39 : decode cX0_init 39 = .ok (.aload_n 0, 1) := by decide +kernel
theorem dX0_init_40 : decode cX0_init 40 = .ok (.bipush 12, 2) := by decide +kernel
theorem dX0_init_42 : decode cX0_init 42 = .ok (.newarray .int, 2) := by decide +kernel
theorem dX0_init_44 : decode cX0_init 44 = .ok (.putfield 27, 3) := by decide +kernel
theorem dX0_init_47 : decode cX0_init 47 = .ok (.aload_n 0, 1) := by decide +kernel
theorem dX0_init_48 : decode cX0_init 48 = .ok (.bipush 12, 2) := by decide +kernel
theorem dX0_init_50 : decode cX0_init 50 = .ok (.newarray .int, 2) := by decide +kernel
theorem dX0_init_52 : decode cX0_init 52 = .ok (.putfield 30, 3) := by decide +kernel
theorem dX0_init_55 : decode cX0_init 55 = .ok (.return_, 1) := by decide +kernel
theorem dX0_has_0 : decode cX0_has 0 = .ok (.iload_n 1, 1) := by decide +kernel
theorem dX0_has_1 : decode cX0_has 1 = .ok (.ifCond .lt 15, 3) := by decide +kernel
theorem dX0_has_4 : decode cX0_has 4 = .ok (.iload_n 1, 1) := by decide +kernel
theorem dX0_has_5 : decode cX0_has 5 = .ok (.aload_n 0, 1) := by decide +kernel
theorem dX0_has_6 : decode cX0_has 6 = .ok (.getfield 33, 3) := by decide +kernel
theorem dX0_has_9 : decode cX0_has 9 = .ok (.if_icmp .ge 7, 3) := by decide +kernel
theorem dX0_has_12 : decode cX0_has 12 = .ok (.iconst 1, 1) := by decide +kernel
theorem dX0_has_13 : decode cX0_has 13 = .ok (.goto 4, 3) := by decide +kernel
theorem dX0_has_16 : decode cX0_has 16 = .ok (.iconst 0, 1) := by decide +kernel
theorem dX0_has_17 : decode cX0_has 17 = .ok (.ireturn, 1) := by decide +kernel
theorem dX0_add_0 : decode cX0_add 0 = .ok (.aload_n 0, 1) := by decide +kernel
theorem dX0_add_1 : decode cX0_add 1 = .ok (.getfield 33, 3) := by decide +kernel
theorem dX0_add_4 : decode cX0_add 4 = .ok (.bipush 12, 2) := by decide +kernel
theorem dX0_add_6 : decode cX0_add 6 = .ok (.if_icmp .lt 6, 3) := by decide +kernel
theorem dX0_add_9 : decode cX0_add 9 = .ok (.bipush (-4), 2) := by decide +kernel
theorem dX0_add_11 : decode cX0_add 11 = .ok (.ireturn, 1) := by decide +kernel
theorem dX0_add_12 : decode cX0_add 12 = .ok (.aload_n 0, 1) := by decide +kernel
theorem dX0_add_13 : decode cX0_add 13 = .ok (.getfield 9, 3) := by decide +kernel
theorem dX0_add_16 : decode cX0_add 16 = .ok (.aload_n 0, 1) := by decide +kernel
theorem dX0_add_17 : decode cX0_add 17 = .ok (.getfield 33, 3) := by decide +kernel
theorem dX0_add_20 : decode cX0_add 20 = .ok (.iload_n 1, 1) := by decide +kernel
theorem dX0_add_21 : decode cX0_add 21 = .ok (.iastore, 1) := by decide +kernel
theorem dX0_add_22 : decode cX0_add 22 = .ok (.aload_n 0, 1) := by decide +kernel
theorem dX0_add_23 : decode cX0_add 23 = .ok (.getfield 15, 3) := by decide +kernel
theorem dX0_add_26 : decode cX0_add 26 = .ok (.aload_n 0, 1) := by decide +kernel
theorem dX0_add_27 : decode cX0_add 27 = .ok (.getfield 33, 3) := by decide +kernel
theorem dX0_add_30 : decode cX0_add 30 = .ok (.iload_n 2, 1) := by decide +kernel
theorem dX0_add_31 : decode cX0_add 31 = .ok (.iastore, 1) := by decide +kernel
theorem dX0_add_32 : decode cX0_add 32 = .ok (.aload_n 0, 1) := by decide +kernel
theorem dX0_add_33 : decode cX0_add 33 = .ok (.getfield 18, 3) := by decide +kernel
theorem dX0_add_36 : decode cX0_add 36 = .ok (.aload_n 0, 1) := by decide +kernel
theorem dX0_add_37 : decode cX0_add 37 = .ok (.getfield 33, 3) := by decide +kernel
theorem dX0_add_40 : decode cX0_add 40 = .ok (.iload_n 3, 1) := by decide +kernel
theorem dX0_add_41 : decode cX0_add 41 = .ok (.bastore, 1) := by decide +kernel
theorem dX0_add_42 : decode cX0_add 42 = .ok (.aload_n 0, 1) := by decide +kernel
theorem dX0_add_43 : decode cX0_add 43 = .ok (.getfield 24, 3) := by decide +kernel
theorem dX0_add_46 : decode cX0_add 46 = .ok (.aload_n 0, 1) := by decide +kernel
theorem dX0_add_47 : decode cX0_add 47 = .ok (.getfield 33, 3) := by decide +kernel
theorem dX0_add_50 : decode cX0_add 50 = .ok (.aaload, 1) := by decide +kernel
theorem dX0_add_51 : decode cX0_add 51 = .ok (.bipush (-9), 2) := by decide +kernel
theorem dX0_add_53 : decode cX0_add 53 = .ok (.invokestatic 37, 3) := by decide +kernel
theorem dX0_add_56 : decode cX0_add 56 = .ok (.aload_n 0, 1) := by decide +kernel
theorem dX0_add_57 : decode cX0_add 57 = .ok (.dup, 1) := by decide +kernel
theorem dX0_add_58 : decode cX0_add 58 = .ok (.getfield 33, 3) := by decide +kernel
theorem dX0_add_61 : decode cX0_add 61 = .ok (.iconst 1, 1) := by decide +kernel
theorem dX0_add_62 : decode cX0_add 62 = .ok (.iadd, 1) := by decide +kernel
theorem dX0_add_63 : decode cX0_add 63 = .ok (.putfield 33, 3) := by decide +kernel
theorem dX0_add_66 : decode cX0_add 66 = .ok (.aload_n 0, 1) := by decide +kernel
theorem dX0_add_67 : decode cX0_add 67 = .ok (.getfield 33, 3) := by decide +kernel
theorem dX0_add_70 : decode cX0_add 70 = .ok (.iconst 1, 1) := by decide +kernel
theorem dX0_add_71 : decode cX0_add 71 = .ok (.isub, 1) := by decide +kernel
theorem dX0_add_72 : decode cX0_add 72 = .ok (.ireturn, 1) := by decide +kernel
theorem dX0_inSpan_0 : decode cX0_inSpan 0 = .ok (.iload_n 2, 1) := by decide +kernel
theorem dX0_inSpan_1 : decode cX0_inSpan 1 = .ok (.aload_n 0, 1) := by decide +kernel
theorem dX0_inSpan_2 : decode cX0_inSpan 2 = .ok (.getfield 9, 3) := by decide +kernel
theorem dX0_inSpan_5 : decode cX0_inSpan 5 = .ok (.iload_n 1, 1) := by decide +kernel
theorem dX0_inSpan_6 : decode cX0_inSpan 6 = .ok (.iaload, 1) := by decide +kernel
theorem dX0_inSpan_7 : decode cX0_inSpan 7 = .ok (.if_icmp .lt 17, 3) := by decide +kernel
theorem dX0_inSpan_10 : decode cX0_inSpan 10 = .ok (.iload_n 2, 1) := by decide +kernel
theorem dX0_inSpan_11 : decode cX0_inSpan 11 = .ok (.aload_n 0, 1) := by decide +kernel
theorem dX0_inSpan_12 : decode cX0_inSpan 12 = .ok (.getfield 15, 3) := by decide +kernel
theorem dX0_inSpan_15 : decode cX0_inSpan 15 = .ok (.iload_n 1, 1) := by decide +kernel
theorem dX0_inSpan_16 : decode cX0_inSpan 16 = .ok (.iaload, 1) := by decide +kernel
theorem dX0_inSpan_17 : decode cX0_inSpan 17 = .ok (.if_icmp .gt 7, 3) := by decide +kernel
theorem dX0_inSpan_20 : decode cX0_inSpan 20 = .ok (.iconst 1, 1) := by decide +kernel
theorem dX0_inSpan_21 : decode cX0_inSpan 21 = .ok (.goto 4, 3) := by decide +kernel
theorem dX0_inSpan_24 : decode cX0_inSpan 24 = .ok (.iconst 0, 1) := by decide +kernel
theorem dX0_inSpan_25 : decode cX0_inSpan 25 = .ok (.ireturn, 1) := by decide +kernel
theorem dX0_askedBits_0 : decode cX0_askedBits 0 = .ok (.iconst 0, 1) := by decide +kernel
theorem dX0_askedBits_1 : decode cX0_askedBits 1 = .ok (.istore_n 1, 1) := by decide +kernel
theorem dX0_askedBits_2 : decode cX0_askedBits 2 = .ok (.iconst 0, 1) := by decide +kernel
theorem dX0_askedBits_3 : decode cX0_askedBits 3 = .ok (.istore_n 2, 1) := by decide +kernel
theorem dX0_askedBits_4 : decode cX0_askedBits 4 = .ok (.iload_n 2, 1) := by decide +kernel
theorem dX0_askedBits_5 : decode cX0_askedBits 5 = .ok (.aload_n 0, 1) := by decide +kernel
theorem dX0_askedBits_6 : decode cX0_askedBits 6 = .ok (.getfield 33, 3) := by decide +kernel
theorem dX0_askedBits_9 : decode cX0_askedBits 9 = .ok (.if_icmp .ge 24, 3) := by decide +kernel
theorem dX0_askedBits_12 : decode cX0_askedBits 12 = .ok (.aload_n 0, 1) := by decide +kernel
theorem dX0_askedBits_13 : decode cX0_askedBits 13 = .ok (.getfield 18, 3) := by decide +kernel
theorem dX0_askedBits_16 : decode cX0_askedBits 16 = .ok (.iload_n 2, 1) := by decide +kernel
theorem dX0_askedBits_17 : decode cX0_askedBits 17 = .ok (.baload, 1) := by decide +kernel
theorem dX0_askedBits_18 : decode cX0_askedBits 18 = .ok (.ifCond .ne 9, 3) := by decide +kernel
theorem dX0_askedBits_21 : decode cX0_askedBits 21 = .ok (.iload_n 1, 1) := by decide +kernel
theorem dX0_askedBits_22 : decode cX0_askedBits 22 = .ok (.iconst 1, 1) := by decide +kernel
theorem dX0_askedBits_23 : decode cX0_askedBits 23 = .ok (.iload_n 2, 1) := by decide +kernel
theorem dX0_askedBits_24 : decode cX0_askedBits 24 = .ok (.ishl, 1) := by decide +kernel
theorem dX0_askedBits_25 : decode cX0_askedBits 25 = .ok (.ior, 1) := by decide +kernel
theorem dX0_askedBits_26 : decode cX0_askedBits 26 = .ok (.istore_n 1, 1) := by decide +kernel
theorem dX0_askedBits_27 : decode cX0_askedBits 27 = .ok (.iinc 2 1, 3) := by decide +kernel
theorem dX0_askedBits_30 : decode cX0_askedBits 30 = .ok (.goto (-26), 3) := by decide +kernel
theorem dX0_askedBits_33 : decode cX0_askedBits 33 = .ok (.iload_n 1, 1) := by decide +kernel
theorem dX0_askedBits_34 : decode cX0_askedBits 34 = .ok (.ireturn, 1) := by decide +kernel
theorem dX0_hangersOn_0 : decode cX0_hangersOn 0 = .ok (.iconst 0, 1) := by decide +kernel
theorem dX0_hangersOn_1 : decode cX0_hangersOn 1 = .ok (.istore_n 2, 1) := by decide +kernel
theorem dX0_hangersOn_2 : decode cX0_hangersOn 2 = .ok (.iconst 0, 1) := by decide +kernel
theorem dX0_hangersOn_3 : decode cX0_hangersOn 3 = .ok (.istore_n 3, 1) := by decide +kernel
theorem dX0_hangersOn_4 : decode cX0_hangersOn 4 = .ok (.iload_n 3, 1) := by decide +kernel
theorem dX0_hangersOn_5 : decode cX0_hangersOn 5 = .ok (.aload_n 0, 1) := by decide +kernel
theorem dX0_hangersOn_6 : decode cX0_hangersOn 6 = .ok (.getfield 33, 3) := by decide +kernel
theorem dX0_hangersOn_9 : decode cX0_hangersOn 9 = .ok (.if_icmp .ge 25, 3) := by decide +kernel
theorem dX0_hangersOn_12 : decode cX0_hangersOn 12 = .ok (.iload_n 2, 1) := by decide +kernel
theorem dX0_hangersOn_13 : decode cX0_hangersOn 13 = .ok (.aload_n 0, 1) := by decide +kernel
theorem dX0_hangersOn_14 : decode cX0_hangersOn 14 = .ok (.getfield 30, 3) := by decide +kernel
theorem dX0_hangersOn_17 : decode cX0_hangersOn 17 = .ok (.iload_n 3, 1) := by decide +kernel
theorem dX0_hangersOn_18 : decode cX0_hangersOn 18 = .ok (.iaload, 1) := by decide +kernel
theorem dX0_hangersOn_19 : decode cX0_hangersOn 19 = .ok (.iload_n 1, 1) := by decide +kernel
theorem dX0_hangersOn_20 : decode cX0_hangersOn 20 = .ok (.invokestatic 43, 3) := by decide +kernel
theorem dX0_hangersOn_23 : decode cX0_hangersOn 23 = .ok (.invokestatic 47, 3) := by decide +kernel
theorem dX0_hangersOn_26 : decode cX0_hangersOn 26 = .ok (.iadd, 1) := by decide +kernel
theorem dX0_hangersOn_27 : decode cX0_hangersOn 27 = .ok (.istore_n 2, 1) := by decide +kernel
theorem dX0_hangersOn_28 : decode cX0_hangersOn 28 = .ok (.iinc 3 1, 3) := by decide +kernel
theorem dX0_hangersOn_31 : decode cX0_hangersOn 31 = .ok (.goto (-27), 3) := by decide +kernel
theorem dX0_hangersOn_34 : decode cX0_hangersOn 34 = .ok (.iload_n 2, 1) := by decide +kernel
theorem dX0_hangersOn_35 : decode cX0_hangersOn 35 = .ok (.ireturn, 1) := by decide +kernel
theorem dX0_spread_0 : decode cX0_spread 0 = .ok (.iload_n 1, 1) := by decide +kernel
theorem dX0_spread_1 : decode cX0_spread 1 = .ok (.istore_n 2, 1) := by decide +kernel
theorem dX0_spread_2 : decode cX0_spread 2 = .ok (.iconst 0, 1) := by decide +kernel
theorem dX0_spread_3 : decode cX0_spread 3 = .ok (.istore_n 3, 1) := by decide +kernel
theorem dX0_spread_4 : decode cX0_spread 4 = .ok (.iload_n 3, 1) := by decide +kernel
theorem dX0_spread_5 : decode cX0_spread 5 = .ok (.aload_n 0, 1) := by decide +kernel
theorem dX0_spread_6 : decode cX0_spread 6 = .ok (.getfield 33, 3) := by decide +kernel
theorem dX0_spread_9 : decode cX0_spread 9 = .ok (.if_icmp .ge 26, 3) := by decide +kernel
theorem dX0_spread_12 : decode cX0_spread 12 = .ok (.iload_n 1, 1) := by decide +kernel
theorem dX0_spread_13 : decode cX0_spread 13 = .ok (.iload_n 3, 1) := by decide +kernel
theorem dX0_spread_14 : decode cX0_spread 14 = .ok (.invokestatic 43, 3) := by decide +kernel
theorem dX0_spread_17 : decode cX0_spread 17 = .ok (.ifCond .eq 12, 3) := by decide +kernel
theorem dX0_spread_20 : decode cX0_spread 20 = .ok (.iload_n 2, 1) := by decide +kernel
theorem dX0_spread_21 : decode cX0_spread 21 = .ok (.aload_n 0, 1) := by decide +kernel
theorem dX0_spread_22 : decode cX0_spread 22 = .ok (.getfield 30, 3) := by decide +kernel
theorem dX0_spread_25 : decode cX0_spread 25 = .ok (.iload_n 3, 1) := by decide +kernel
theorem dX0_spread_26 : decode cX0_spread 26 = .ok (.iaload, 1) := by decide +kernel
theorem dX0_spread_27 : decode cX0_spread 27 = .ok (.ior, 1) := by decide +kernel
theorem dX0_spread_28 : decode cX0_spread 28 = .ok (.istore_n 2, 1) := by decide +kernel
theorem dX0_spread_29 : decode cX0_spread 29 = .ok (.iinc 3 1, 3) := by decide +kernel
theorem dX0_spread_32 : decode cX0_spread 32 = .ok (.goto (-28), 3) := by decide +kernel
theorem dX0_spread_35 : decode cX0_spread 35 = .ok (.iload_n 2, 1) := by decide +kernel
theorem dX0_spread_36 : decode cX0_spread 36 = .ok (.ireturn, 1) := by decide +kernel
theorem dX0_spreadHangs_0 : decode cX0_spreadHangs 0 = .ok (.iconst 0, 1) := by decide +kernel
theorem dX0_spreadHangs_1 : decode cX0_spreadHangs 1 = .ok (.istore_n 1, 1) := by decide +kernel
theorem dX0_spreadHangs_2 : decode cX0_spreadHangs 2 = .ok (.iload_n 1, 1) := by decide +kernel
theorem dX0_spreadHangs_3 : decode cX0_spreadHangs 3 = .ok (.aload_n 0, 1) := by decide +kernel
theorem dX0_spreadHangs_4 : decode cX0_spreadHangs 4 = .ok (.getfield 33, 3) := by decide +kernel
theorem dX0_spreadHangs_7 : decode cX0_spreadHangs 7 = .ok (.if_icmp .ge 21, 3) := by decide +kernel
theorem dX0_spreadHangs_10 : decode cX0_spreadHangs 10 = .ok (.aload_n 0, 1) := by decide +kernel
theorem dX0_spreadHangs_11 : decode cX0_spreadHangs 11 = .ok (.getfield 30, 3) := by decide +kernel
theorem dX0_spreadHangs_14 : decode cX0_spreadHangs 14 = .ok (.iload_n 1, 1) := by decide +kernel
theorem dX0_spreadHangs_15 : decode cX0_spreadHangs 15 = .ok (.aload_n 0, 1) := by decide +kernel
theorem dX0_spreadHangs_16 : decode cX0_spreadHangs 16 = .ok (.getfield 27, 3) := by decide +kernel
theorem dX0_spreadHangs_19 : decode cX0_spreadHangs 19 = .ok (.iload_n 1, 1) := by decide +kernel
theorem dX0_spreadHangs_20 : decode cX0_spreadHangs 20 = .ok (.iaload, 1) := by decide +kernel
theorem dX0_spreadHangs_21 : decode cX0_spreadHangs 21 = .ok (.iastore, 1) := by decide +kernel
theorem dX0_spreadHangs_22 : decode cX0_spreadHangs 22 = .ok (.iinc 1 1, 3) := by decide +kernel
theorem dX0_spreadHangs_25 : decode cX0_spreadHangs 25 = .ok (.goto (-23), 3) := by decide +kernel
theorem dX0_spreadHangs_28 : decode cX0_spreadHangs 28 = .ok (.iconst 0, 1) := by decide +kernel
theorem dX0_spreadHangs_29 : decode cX0_spreadHangs 29 = .ok (.istore_n 1, 1) := by decide +kernel
theorem dX0_spreadHangs_30 : decode cX0_spreadHangs 30 = .ok (.iload_n 1, 1) := by decide +kernel
theorem dX0_spreadHangs_31 : decode cX0_spreadHangs 31 = .ok (.aload_n 0, 1) := by decide +kernel
theorem dX0_spreadHangs_32 : decode cX0_spreadHangs 32 = .ok (.getfield 33, 3) := by decide +kernel
theorem dX0_spreadHangs_35 : decode cX0_spreadHangs 35 = .ok (.if_icmp .ge 53, 3) := by decide +kernel
theorem dX0_spreadHangs_38 : decode cX0_spreadHangs 38 = .ok (.iconst 0, 1) := by decide +kernel
theorem dX0_spreadHangs_39 : decode cX0_spreadHangs 39 = .ok (.istore_n 2, 1) := by decide +kernel
theorem dX0_spreadHangs_40 : decode cX0_spreadHangs 40 = .ok (.iload_n 2, 1) := by decide +kernel
theorem dX0_spreadHangs_41 : decode cX0_spreadHangs 41 = .ok (.aload_n 0, 1) := by decide +kernel
theorem dX0_spreadHangs_42 : decode cX0_spreadHangs 42 = .ok (.getfield 33, 3) := by decide +kernel
theorem dX0_spreadHangs_45 : decode cX0_spreadHangs 45 = .ok (.if_icmp .ge 37, 3) := by decide +kernel
theorem dX0_spreadHangs_48 : decode cX0_spreadHangs 48 = .ok (.aload_n 0, 1) := by decide +kernel
theorem dX0_spreadHangs_49 : decode cX0_spreadHangs 49 = .ok (.getfield 30, 3) := by decide +kernel
theorem dX0_spreadHangs_52 : decode cX0_spreadHangs 52 = .ok (.iload_n 2, 1) := by decide +kernel
theorem dX0_spreadHangs_53 : decode cX0_spreadHangs 53 = .ok (.iaload, 1) := by decide +kernel
theorem dX0_spreadHangs_54 : decode cX0_spreadHangs 54 = .ok (.iload_n 1, 1) := by decide +kernel
theorem dX0_spreadHangs_55 : decode cX0_spreadHangs 55 = .ok (.invokestatic 43, 3) := by decide +kernel
theorem dX0_spreadHangs_58 : decode cX0_spreadHangs 58 = .ok (.ifCond .eq 18, 3) := by decide +kernel
theorem dX0_spreadHangs_61 : decode cX0_spreadHangs 61 = .ok (.aload_n 0, 1) := by decide +kernel
theorem dX0_spreadHangs_62 : decode cX0_spreadHangs 62 = .ok (.getfield 30, 3) := by decide +kernel
theorem dX0_spreadHangs_65 : decode cX0_spreadHangs 65 = .ok (.iload_n 2, 1) := by decide +kernel
theorem dX0_spreadHangs_66 : decode cX0_spreadHangs 66 = .ok (.dup2, 1) := by decide +kernel
theorem dX0_spreadHangs_67 : decode cX0_spreadHangs 67 = .ok (.iaload, 1) := by decide +kernel
theorem dX0_spreadHangs_68 : decode cX0_spreadHangs 68 = .ok (.aload_n 0, 1) := by decide +kernel
theorem dX0_spreadHangs_69 : decode cX0_spreadHangs 69 = .ok (.getfield 30, 3) := by decide +kernel
theorem dX0_spreadHangs_72 : decode cX0_spreadHangs 72 = .ok (.iload_n 1, 1) := by decide +kernel
theorem dX0_spreadHangs_73 : decode cX0_spreadHangs 73 = .ok (.iaload, 1) := by decide +kernel
theorem dX0_spreadHangs_74 : decode cX0_spreadHangs 74 = .ok (.ior, 1) := by decide +kernel
theorem dX0_spreadHangs_75 : decode cX0_spreadHangs 75 = .ok (.iastore, 1) := by decide +kernel
theorem dX0_spreadHangs_76 : decode cX0_spreadHangs 76 = .ok (.iinc 2 1, 3) := by decide +kernel
theorem dX0_spreadHangs_79 : decode cX0_spreadHangs 79 = .ok (.goto (-39), 3) := by decide +kernel
theorem dX0_spreadHangs_82 : decode cX0_spreadHangs 82 = .ok (.iinc 1 1, 3) := by decide +kernel
theorem dX0_spreadHangs_85 : decode cX0_spreadHangs 85 = .ok (.goto (-55), 3) := by decide +kernel
theorem dX0_spreadHangs_88 : decode cX0_spreadHangs 88 = .ok (.return_, 1) := by decide +kernel
theorem dX0_leastHanging_0 : decode cX0_leastHanging 0 = .ok (.iconst 0, 1) := by decide +kernel
theorem dX0_leastHanging_1 : decode cX0_leastHanging 1 = .ok (.istore_n 3, 1) := by decide +kernel
theorem dX0_leastHanging_2 : decode cX0_leastHanging 2 = .ok (.iload_n 3, 1) := by decide +kernel
theorem dX0_leastHanging_3 : decode cX0_leastHanging 3 = .ok (.aload_n 0, 1) := by decide +kernel
theorem dX0_leastHanging_4 : decode cX0_leastHanging 4 = .ok (.getfield 33, 3) := by decide +kernel
theorem dX0_leastHanging_7 : decode cX0_leastHanging 7 = .ok (.if_icmp .ge 32, 3) := by decide +kernel
theorem dX0_leastHanging_10 : decode cX0_leastHanging 10 = .ok (.iload_n 1, 1) := by decide +kernel
theorem dX0_leastHanging_11 : decode cX0_leastHanging 11 = .ok (.iload_n 3, 1) := by decide +kernel
theorem dX0_leastHanging_12 : decode cX0_leastHanging 12 = .ok (.invokestatic 43, 3) := by decide +kernel
theorem dX0_leastHanging_15 : decode cX0_leastHanging 15 = .ok (.ifCond .eq 18, 3) := by decide +kernel
theorem dX0_leastHanging_18 : decode cX0_leastHanging 18 = .ok (.aload_n 0, 1) := by decide +kernel
theorem dX0_leastHanging_19 : decode cX0_leastHanging 19 = .ok (.getfield 30, 3) := by decide +kernel
theorem dX0_leastHanging_22 : decode cX0_leastHanging 22 = .ok (.iload_n 3, 1) := by decide +kernel
theorem dX0_leastHanging_23 : decode cX0_leastHanging 23 = .ok (.iaload, 1) := by decide +kernel
theorem dX0_leastHanging_24 : decode cX0_leastHanging 24 = .ok (.iload_n 2, 1) := by decide +kernel
theorem dX0_leastHanging_25 : decode cX0_leastHanging 25 = .ok (.invokestatic 43, 3) := by decide +kernel
theorem dX0_leastHanging_28 : decode cX0_leastHanging 28 = .ok (.ifCond .eq 5, 3) := by decide +kernel
theorem dX0_leastHanging_31 : decode cX0_leastHanging 31 = .ok (.iload_n 3, 1) := by decide +kernel
theorem dX0_leastHanging_32 : decode cX0_leastHanging 32 = .ok (.ireturn, 1) := by decide +kernel
theorem dX0_leastHanging_33 : decode cX0_leastHanging 33 = .ok (.iinc 3 1, 3) := by decide +kernel
theorem dX0_leastHanging_36 : decode cX0_leastHanging 36 = .ok (.goto (-34), 3) := by decide +kernel
theorem dX0_leastHanging_39 : decode cX0_leastHanging 39 = .ok (.bipush (-9), 2) := by decide +kernel
theorem dX0_leastHanging_41 : decode cX0_leastHanging 41 = .ok (.ireturn, 1) := by decide +kernel
theorem dX1_init_0 : decode cX1_init 0 = .ok (.aload_n 0, 1) := by decide +kernel
theorem dX1_init_1 : decode cX1_init 1 = .ok (.invokespecial 3, 3) := by decide +kernel
theorem dX1_init_4 : decode cX1_init 4 = .ok (.aload_n 0, 1) := by decide +kernel
theorem dX1_init_5 : decode cX1_init 5 = .ok (.bipush 12, 2) := by decide +kernel
theorem dX1_init_7 : decode cX1_init 7 = .ok (.newarray .int, 2) := by decide +kernel
theorem dX1_init_9 : decode cX1_init 9 = .ok (.putfield 9, 3) := by decide +kernel
theorem dX1_init_12 : decode cX1_init 12 = .ok (.return_, 1) := by decide +kernel
theorem dX1_begin_0 : decode cX1_begin 0 = .ok (.aload_n 0, 1) := by decide +kernel
theorem dX1_begin_1 : decode cX1_begin 1 = .ok (.iconst 0, 1) := by decide +kernel
theorem dX1_begin_2 : decode cX1_begin 2 = .ok (.putfield 15, 3) := by decide +kernel
theorem dX1_begin_5 : decode cX1_begin 5 = .ok (.return_, 1) := by decide +kernel
theorem dX1_joinOne_0 : decode cX1_joinOne 0 = .ok (.iload_n 3, 1) := by decide +kernel
theorem dX1_joinOne_1 : decode cX1_joinOne 1 = .ok (.iload 4, 2) := by decide +kernel
theorem dX1_joinOne_3 : decode cX1_joinOne 3 = .ok (.if_icmp .eq 9, 3) := by decide +kernel
theorem dX1_joinOne_6 : decode cX1_joinOne 6 = .ok (.iload 4, 2) := by decide +kernel
theorem dX1_joinOne_8 : decode cX1_joinOne 8 = .ok (.iload_n 2, 1) := by decide +kernel
theorem dX1_joinOne_9 : decode cX1_joinOne 9 = .ok (.if_icmp .ne 5, 3) := by decide +kernel
theorem dX1_joinOne_12 : decode cX1_joinOne 12 = .ok (.iload_n 3, 1) := by decide +kernel
theorem dX1_joinOne_13 : decode cX1_joinOne 13 = .ok (.ireturn, 1) := by decide +kernel
theorem dX1_joinOne_14 : decode cX1_joinOne 14 = .ok (.iload_n 3, 1) := by decide +kernel
theorem dX1_joinOne_15 : decode cX1_joinOne 15 = .ok (.iload_n 2, 1) := by decide +kernel
theorem dX1_joinOne_16 : decode cX1_joinOne 16 = .ok (.if_icmp .ne 6, 3) := by decide +kernel
theorem dX1_joinOne_19 : decode cX1_joinOne 19 = .ok (.iload 4, 2) := by decide +kernel
theorem dX1_joinOne_21 : decode cX1_joinOne 21 = .ok (.ireturn, 1) := by decide +kernel
theorem dX1_joinOne_22 : decode cX1_joinOne 22 = .ok (.aload_n 0, 1) := by decide +kernel
theorem dX1_joinOne_23 : decode cX1_joinOne 23 = .ok (.getfield 15, 3) := by decide +kernel
theorem dX1_joinOne_26 : decode cX1_joinOne 26 = .ok (.bipush 12, 2) := by decide +kernel
theorem dX1_joinOne_28 : decode cX1_joinOne 28 = .ok (.if_icmp .ge 23, 3) := by decide +kernel
theorem dX1_joinOne_31 : decode cX1_joinOne 31 = .ok (.aload_n 0, 1) := by decide +kernel
theorem dX1_joinOne_32 : decode cX1_joinOne 32 = .ok (.getfield 9, 3) := by decide +kernel
theorem dX1_joinOne_35 : decode cX1_joinOne 35 = .ok (.aload_n 0, 1) := by decide +kernel
theorem dX1_joinOne_36 : decode cX1_joinOne 36 = .ok (.getfield 15, 3) := by decide +kernel
theorem dX1_joinOne_39 : decode cX1_joinOne 39 = .ok (.iload_n 1, 1) := by decide +kernel
theorem dX1_joinOne_40 : decode cX1_joinOne 40 = .ok (.iastore, 1) := by decide +kernel
theorem dX1_joinOne_41 : decode cX1_joinOne 41 = .ok (.aload_n 0, 1) := by decide +kernel
theorem dX1_joinOne_42 : decode cX1_joinOne 42 = .ok (.dup, 1) := by decide +kernel
theorem dX1_joinOne_43 : decode cX1_joinOne 43 = .ok (.getfield 15, 3) := by decide +kernel
theorem dX1_joinOne_46 : decode cX1_joinOne 46 = .ok (.iconst 1, 1) := by decide +kernel
theorem dX1_joinOne_47 : decode cX1_joinOne 47 = .ok (.iadd, 1) := by decide +kernel
theorem dX1_joinOne_48 : decode cX1_joinOne 48 = .ok (.putfield 15, 3) := by decide +kernel
theorem dX1_joinOne_51 : decode cX1_joinOne 51 = .ok (.iload_n 3, 1) := by decide +kernel
theorem dX1_joinOne_52 : decode cX1_joinOne 52 = .ok (.ireturn, 1) := by decide +kernel
theorem dX2_init_0 : decode cX2_init 0 = .ok (.aload_n 0, 1) := by decide +kernel
theorem dX2_init_1 : decode cX2_init 1 = .ok (.invokespecial 3, 3) := by decide +kernel
theorem dX2_init_4 : decode cX2_init 4 = .ok (.aload_n 0, 1) := by decide +kernel
theorem dX2_init_5 : decode cX2_init 5 = .ok (.new 9, 3) := by decide +kernel
theorem dX2_init_8 : decode cX2_init 8 = .ok (.dup, 1) := by decide +kernel
theorem dX2_init_9 : decode cX2_init 9 = .ok (.invokespecial 11, 3) := by decide +kernel
theorem dX2_init_12 : decode cX2_init 12 = .ok (.putfield 12, 3) := by decide +kernel
theorem dX2_init_15 : decode cX2_init 15 = .ok (.aload_n 0, 1) := by decide +kernel
theorem dX2_init_16 : decode cX2_init 16 = .ok (.new 18, 3) := by decide +kernel
theorem dX2_init_19 : decode cX2_init 19 = .ok (.dup, 1) := by decide +kernel
theorem dX2_init_20 : decode cX2_init 20 = .ok (.invokespecial 20, 3) := by decide +kernel
theorem dX2_init_23 : decode cX2_init 23 = .ok (.putfield 21, 3) := by decide +kernel
theorem dX2_init_26 : decode cX2_init 26 = .ok (.aload_n 0, 1) := by decide +kernel
theorem dX2_init_27 : decode cX2_init 27 = .ok (.bipush 62, 2) := by decide +kernel
theorem dX2_init_29 : decode cX2_init 29 = .ok (.newarray .int, 2) := by decide +kernel
theorem dX2_init_31 : decode cX2_init 31 = .ok (.putfield 25, 3) := by decide +kernel
theorem dX2_init_34 : decode cX2_init 34 = .ok (.aload_n 0, 1) := by decide +kernel
theorem dX2_init_35 : decode cX2_init 35 = .ok (.bipush 62, 2) := by decide +kernel
theorem dX2_init_37 : decode cX2_init 37 = .ok (.newarray .int, 2) := by decide +kernel
theorem dX2_init_39 : decode cX2_init 39 = .ok (.putfield 29, 3) := by decide +kernel
theorem dX2_init_42 : decode cX2_init 42 = .ok (.aload_n 0, 1) := by decide +kernel
theorem dX2_init_43 : decode cX2_init 43 = .ok (.bipush 50, 2) := by decide +kernel
theorem dX2_init_45 : decode cX2_init 45 = .ok (.newarray .int, 2) := by decide +kernel
theorem dX2_init_47 : decode cX2_init 47 = .ok (.putfield 32, 3) := by decide +kernel
theorem dX2_init_50 : decode cX2_init 50 = .ok (.return_, 1) := by decide +kernel
theorem dX2_directWith_0 : decode cX2_directWith 0 = .ok (.iload_n 2, 1) := by decide +kernel
theorem dX2_directWith_1 : decode cX2_directWith 1 = .ok (.ifCond .ne 7, 3) := by decide +kernel
theorem dX2_directWith_4 : decode cX2_directWith 4 = .ok (.iload_n 3, 1) := by decide +kernel
theorem dX2_directWith_5 : decode cX2_directWith 5 = .ok (.goto 14, 3) := by decide +kernel
theorem dX2_directWith_8 : decode cX2_directWith 8 = .ok (.aload_n 0, 1) := by decide +kernel
theorem dX2_directWith_9 : decode cX2_directWith 9 = .ok (.getfield 12, 3) := by decide +kernel
theorem dX2_directWith_12 : decode cX2_directWith 12 = .ok (.getfield 35, 3) := by decide +kernel
theorem dX2_directWith_15 : decode cX2_directWith 15 = .ok (.iload_n 1, 1) := by decide +kernel
theorem dX2_directWith_16 : decode cX2_directWith 16 = .ok (.aaload, 1) := by decide +kernel
theorem dX2_directWith_17 : decode cX2_directWith 17 = .ok (.iconst 0, 1) := by decide +kernel
theorem dX2_directWith_18 : decode cX2_directWith 18 = .ok (.iaload, 1) := by decide +kernel
theorem dX2_directWith_19 : decode cX2_directWith 19 = .ok (.istore 4, 2) := by decide +kernel
theorem dX2_directWith_21 : decode cX2_directWith 21 = .ok (.iload_n 2, 1) := by decide +kernel
theorem dX2_directWith_22 : decode cX2_directWith 22 = .ok (.iconst 3, 1) := by decide +kernel
theorem dX2_directWith_23 : decode cX2_directWith 23 = .ok (.if_icmp .ne 7, 3) := by decide +kernel
theorem dX2_directWith_26 : decode cX2_directWith 26 = .ok (.iload_n 3, 1) := by decide +kernel
theorem dX2_directWith_27 : decode cX2_directWith 27 = .ok (.goto 14, 3) := by decide +kernel
theorem dX2_directWith_30 : decode cX2_directWith 30 = .ok (.aload_n 0, 1) := by decide +kernel
theorem dX2_directWith_31 : decode cX2_directWith 31 = .ok (.getfield 12, 3) := by decide +kernel
theorem dX2_directWith_34 : decode cX2_directWith 34 = .ok (.getfield 35, 3) := by decide +kernel
theorem dX2_directWith_37 : decode cX2_directWith 37 = .ok (.iload_n 1, 1) := by decide +kernel
theorem dX2_directWith_38 : decode cX2_directWith 38 = .ok (.aaload, 1) := by decide +kernel
theorem dX2_directWith_39 : decode cX2_directWith 39 = .ok (.iconst 3, 1) := by decide +kernel
theorem dX2_directWith_40 : decode cX2_directWith 40 = .ok (.iaload, 1) := by decide +kernel
theorem dX2_directWith_41 : decode cX2_directWith 41 = .ok (.istore 5, 2) := by decide +kernel
theorem dX2_directWith_43 : decode cX2_directWith 43 = .ok (.aload_n 0, 1) := by decide +kernel
theorem dX2_directWith_44 : decode cX2_directWith 44 = .ok (.getfield 21, 3) := by decide +kernel
theorem dX2_directWith_47 : decode cX2_directWith 47 = .ok (.iload 4, 2) := by decide +kernel
theorem dX2_directWith_49 : decode cX2_directWith 49 = .ok (.invokevirtual 39, 3) := by decide +kernel
theorem dX2_directWith_52 : decode cX2_directWith 52 = .ok (.aload_n 0, 1) := by decide +kernel
theorem dX2_directWith_53 : decode cX2_directWith 53 = .ok (.getfield 21, 3) := by decide +kernel
theorem dX2_directWith_56 : decode cX2_directWith 56 = .ok (.iload 5, 2) := by decide +kernel
theorem dX2_directWith_58 : decode cX2_directWith 58 = .ok (.invokevirtual 39, 3) := by decide +kernel
theorem dX2_directWith_61 : decode cX2_directWith 61 = .ok (.ior, 1) := by decide +kernel
theorem dX2_directWith_62 : decode cX2_directWith 62 = .ok (.ireturn, 1) := by decide +kernel
theorem dX2_setRule_0 : decode cX2_setRule 0 = .ok (.aload_n 0, 1) := by decide +kernel
theorem dX2_setRule_1 : decode cX2_setRule 1 = .ok (.getfield 12, 3) := by decide +kernel
theorem dX2_setRule_4 : decode cX2_setRule 4 = .ok (.getfield 43, 3) := by decide +kernel
theorem dX2_setRule_7 : decode cX2_setRule 7 = .ok (.iload_n 1, 1) := by decide +kernel
theorem dX2_setRule_8 : decode cX2_setRule 8 = .ok (.aload_n 0, 1) := by decide +kernel
theorem dX2_setRule_9 : decode cX2_setRule 9 = .ok (.iload_n 1, 1) := by decide +kernel
theorem dX2_setRule_10 : decode cX2_setRule 10 = .ok (.iload_n 2, 1) := by decide +kernel
theorem dX2_setRule_11 : decode cX2_setRule 11 = .ok (.iload_n 3, 1) := by decide +kernel
theorem dX2_setRule_12 : decode cX2_setRule 12 = .ok (.invokevirtual 46, 3) := by decide +kernel
theorem dX2_setRule_15 : decode cX2_setRule 15 = .ok (.iastore, 1) := by decide +kernel
theorem dX2_setRule_16 : decode cX2_setRule 16 = .ok (.aload_n 0, 1) := by decide +kernel
theorem dX2_setRule_17 : decode cX2_setRule 17 = .ok (.getfield 12, 3) := by decide +kernel
theorem dX2_setRule_20 : decode cX2_setRule 20 = .ok (.getfield 35, 3) := by decide +kernel
theorem dX2_setRule_23 : decode cX2_setRule 23 = .ok (.iload_n 1, 1) := by decide +kernel
theorem dX2_setRule_24 : decode cX2_setRule 24 = .ok (.aaload, 1) := by decide +kernel
theorem dX2_setRule_25 : decode cX2_setRule 25 = .ok (.iload_n 2, 1) := by decide +kernel
theorem dX2_setRule_26 : decode cX2_setRule 26 = .ok (.iload_n 3, 1) := by decide +kernel
theorem dX2_setRule_27 : decode cX2_setRule 27 = .ok (.iastore, 1) := by decide +kernel
theorem dX2_setRule_28 : decode cX2_setRule 28 = .ok (.aload_n 0, 1) := by decide +kernel
theorem dX2_setRule_29 : decode cX2_setRule 29 = .ok (.getfield 12, 3) := by decide +kernel
theorem dX2_setRule_32 : decode cX2_setRule 32 = .ok (.invokevirtual 50, 3) := by decide +kernel
theorem dX2_setRule_35 : decode cX2_setRule 35 = .ok (.aload_n 0, 1) := by decide +kernel
theorem dX2_setRule_36 : decode cX2_setRule 36 = .ok (.invokevirtual 53, 3) := by decide +kernel
theorem dX2_setRule_39 : decode cX2_setRule 39 = .ok (.return_, 1) := by decide +kernel
theorem dX2_arrange_0 : decode cX2_arrange 0 = .ok (.iconst 0, 1) := by decide +kernel
theorem dX2_arrange_1 : decode cX2_arrange 1 = .ok (.istore_n 1, 1) := by decide +kernel
theorem dX2_arrange_2 : decode cX2_arrange 2 = .ok (.iload_n 1, 1) := by decide +kernel
theorem dX2_arrange_3 : decode cX2_arrange 3 = .ok (.aload_n 0, 1) := by decide +kernel
theorem dX2_arrange_4 : decode cX2_arrange 4 = .ok (.getfield 21, 3) := by decide +kernel
theorem dX2_arrange_7 : decode cX2_arrange 7 = .ok (.getfield 56, 3) := by decide +kernel
theorem dX2_arrange_10 : decode cX2_arrange 10 = .ok (.if_icmp .ge 31, 3) := by decide +kernel
theorem dX2_arrange_13 : decode cX2_arrange 13 = .ok (.aload_n 0, 1) := by decide +kernel
theorem dX2_arrange_14 : decode cX2_arrange 14 = .ok (.getfield 32, 3) := by decide +kernel
theorem dX2_arrange_17 : decode cX2_arrange 17 = .ok (.iload_n 1, 1) := by decide +kernel
theorem dX2_arrange_18 : decode cX2_arrange 18 = .ok (.aload_n 0, 1) := by decide +kernel
theorem dX2_arrange_19 : decode cX2_arrange 19 = .ok (.getfield 12, 3) := by decide +kernel
theorem dX2_arrange_22 : decode cX2_arrange 22 = .ok (.aload_n 0, 1) := by decide +kernel
theorem dX2_arrange_23 : decode cX2_arrange 23 = .ok (.getfield 21, 3) := by decide +kernel
theorem dX2_arrange_26 : decode cX2_arrange 26 = .ok (.getfield 60, 3) := by decide +kernel
theorem dX2_arrange_29 : decode cX2_arrange 29 = .ok (.iload_n 1, 1) := by decide +kernel
theorem dX2_arrange_30 : decode cX2_arrange 30 = .ok (.iaload, 1) := by decide +kernel
theorem dX2_arrange_31 : decode cX2_arrange 31 = .ok (.invokevirtual 63, 3) := by decide +kernel
theorem dX2_arrange_34 : decode cX2_arrange 34 = .ok (.iastore, 1) := by decide +kernel
theorem dX2_arrange_35 : decode cX2_arrange 35 = .ok (.iinc 1 1, 3) := by decide +kernel
theorem dX2_arrange_38 : decode cX2_arrange 38 = .ok (.goto (-36), 3) := by decide +kernel
theorem dX2_arrange_41 : decode cX2_arrange 41 = .ok (.aload_n 0, 1) := by decide +kernel
theorem dX2_arrange_42 : decode cX2_arrange 42 = .ok (.iconst 0, 1) := by decide +kernel
theorem dX2_arrange_43 : decode cX2_arrange 43 = .ok (.putfield 66, 3) := by decide +kernel
theorem dX2_arrange_46 : decode cX2_arrange 46 = .ok (.iconst 0, 1) := by decide +kernel
theorem dX2_arrange_47 : decode cX2_arrange 47 = .ok (.istore_n 1, 1) := by decide +kernel
theorem dX2_arrange_48 : decode cX2_arrange 48 = .ok (.iload_n 1, 1) := by decide +kernel
theorem dX2_arrange_49 : decode cX2_arrange 49 = .ok (.bipush 12, 2) := by decide +kernel
theorem dX2_arrange_51 : decode cX2_arrange 51 = .ok (.if_icmp .gt 108, 3) := by decide +kernel
theorem dX2_arrange_54 : decode cX2_arrange 54 = .ok (.iconst 0, 1) := by decide +kernel
theorem dX2_arrange_55 : decode cX2_arrange 55 = .ok (.istore_n 2, 1) := by decide +kernel
theorem dX2_arrange_56 : decode cX2_arrange 56 = .ok (.iload_n 2, 1) := by decide +kernel
theorem dX2_arrange_57 : decode cX2_arrange 57 = .ok (.aload_n 0, 1) := by decide +kernel
theorem dX2_arrange_58 : decode cX2_arrange 58 = .ok (.getfield 21, 3) := by decide +kernel
theorem dX2_arrange_61 : decode cX2_arrange 61 = .ok (.getfield 56, 3) := by decide +kernel
theorem dX2_arrange_64 : decode cX2_arrange 64 = .ok (.if_icmp .ge 33, 3) := by decide +kernel
theorem dX2_arrange_67 : decode cX2_arrange 67 = .ok (.aload_n 0, 1) := by decide +kernel
theorem dX2_arrange_68 : decode cX2_arrange 68 = .ok (.getfield 32, 3) := by decide +kernel
theorem dX2_arrange_71 : decode cX2_arrange 71 = .ok (.iload_n 2, 1) := by decide +kernel
theorem dX2_arrange_72 : decode cX2_arrange 72 = .ok (.iaload, 1) := by decide +kernel
theorem dX2_arrange_73 : decode cX2_arrange 73 = .ok (.invokestatic 69, 3) := by decide +kernel
theorem dX2_arrange_76 : decode cX2_arrange 76 = .ok (.iload_n 1, 1) := by decide +kernel
theorem dX2_arrange_77 : decode cX2_arrange 77 = .ok (.if_icmp .ne 14, 3) := by decide +kernel
theorem dX2_arrange_80 : decode cX2_arrange 80 = .ok (.aload_n 0, 1) := by decide +kernel
theorem dX2_arrange_81 : decode cX2_arrange 81 = .ok (.iload_n 2, 1) := by decide +kernel
theorem dX2_arrange_82 : decode cX2_arrange 82 = .ok (.aload_n 0, 1) := by decide +kernel
theorem dX2_arrange_83 : decode cX2_arrange 83 = .ok (.getfield 32, 3) := by decide +kernel
theorem dX2_arrange_86 : decode cX2_arrange 86 = .ok (.iload_n 2, 1) := by decide +kernel
theorem dX2_arrange_87 : decode cX2_arrange 87 = .ok (.iaload, 1) := by decide +kernel
theorem dX2_arrange_88 : decode cX2_arrange 88 = .ok (.invokevirtual 74, 3) := by decide +kernel
theorem dX2_arrange_91 : decode cX2_arrange 91 = .ok (.iinc 2 1, 3) := by decide +kernel
theorem dX2_arrange_94 : decode cX2_arrange 94 = .ok (.goto (-38), 3) := by decide +kernel
theorem dX2_arrange_97 : decode cX2_arrange 97 = .ok (.iconst 0, 1) := by decide +kernel
theorem dX2_arrange_98 : decode cX2_arrange 98 = .ok (.istore_n 2, 1) := by decide +kernel
theorem dX2_arrange_99 : decode cX2_arrange 99 = .ok (.iload_n 2, 1) := by decide +kernel
theorem dX2_arrange_100 : decode cX2_arrange 100 = .ok (.aload_n 0, 1) := by decide +kernel
theorem dX2_arrange_101 : decode cX2_arrange 101 = .ok (.getfield 12, 3) := by decide +kernel
theorem dX2_arrange_104 : decode cX2_arrange 104 = .ok (.getfield 78, 3) := by decide +kernel
theorem dX2_arrange_107 : decode cX2_arrange 107 = .ok (.if_icmp .ge 46, 3) := by decide +kernel
theorem dX2_arrange_110 : decode cX2_arrange 110 = .ok (.aload_n 0, 1) := by decide +kernel
theorem dX2_arrange_111 : decode cX2_arrange 111 = .ok (.getfield 12, 3) := by decide +kernel
theorem dX2_arrange_114 : decode cX2_arrange 114 = .ok (.getfield 79, 3) := by decide +kernel
theorem dX2_arrange_117 : decode cX2_arrange 117 = .ok (.iload_n 2, 1) := by decide +kernel
theorem dX2_arrange_118 : decode cX2_arrange 118 = .ok (.iaload, 1) := by decide +kernel
theorem dX2_arrange_119 : decode cX2_arrange 119 = .ok (.invokestatic 69, 3) := by decide +kernel
theorem dX2_arrange_122 : decode cX2_arrange 122 = .ok (.iload_n 1, 1) := by decide +kernel
theorem dX2_arrange_123 : decode cX2_arrange 123 = .ok (.if_icmp .ne 24, 3) := by decide +kernel
theorem dX2_arrange_126 : decode cX2_arrange 126 = .ok (.aload_n 0, 1) := by decide +kernel
theorem dX2_arrange_127 : decode cX2_arrange 127 = .ok (.bipush 50, 2) := by decide +kernel
theorem dX2_arrange_129 : decode cX2_arrange 129 = .ok (.iload_n 2, 1) := by decide +kernel
theorem dX2_arrange_130 : decode cX2_arrange 130 = .ok (.iadd, 1) := by decide +kernel
theorem dX2_arrange_131 : decode cX2_arrange 131 = .ok (.aload_n 0, 1) := by decide +kernel
theorem dX2_arrange_132 : decode cX2_arrange 132 = .ok (.getfield 12, 3) := by decide +kernel
theorem dX2_arrange_135 : decode cX2_arrange 135 = .ok (.getfield 79, 3) := by decide +kernel
theorem dX2_arrange_138 : decode cX2_arrange 138 = .ok (.iload_n 2, 1) := by decide +kernel
theorem dX2_arrange_139 : decode cX2_arrange 139 = .ok (.iaload, 1) := by decide +kernel
theorem dX2_arrange_140 : decode cX2_arrange 140 = .ok (.iconst 1, 1) := by decide +kernel
theorem dX2_arrange_141 : decode cX2_arrange 141 = .ok (.iload_n 2, 1) := by decide +kernel
theorem dX2_arrange_142 : decode cX2_arrange 142 = .ok (.ishl, 1) := by decide +kernel
theorem dX2_arrange_143 : decode cX2_arrange 143 = .ok (.ior, 1) := by decide +kernel
theorem dX2_arrange_144 : decode cX2_arrange 144 = .ok (.invokevirtual 74, 3) := by decide +kernel
theorem dX2_arrange_147 : decode cX2_arrange 147 = .ok (.iinc 2 1, 3) := by decide +kernel
theorem dX2_arrange_150 : decode cX2_arrange 150 = .ok (.goto (-51), 3) := by decide +kernel
theorem dX2_arrange_153 : decode cX2_arrange 153 = .ok (.iinc 1 1, 3) := by decide +kernel
theorem dX2_arrange_156 : decode cX2_arrange 156 = .ok (.goto (-108), 3) := by decide +kernel
theorem dX2_arrange_159 : decode cX2_arrange 159 = .ok (.return_, 1) := by decide +kernel
theorem dX2_addStep_0 : decode cX2_addStep 0 = .ok (.aload_n 0, 1) := by decide +kernel
theorem dX2_addStep_1 : decode cX2_addStep 1 = .ok (.getfield 66, 3) := by decide +kernel
theorem dX2_addStep_4 : decode cX2_addStep 4 = .ok (.aload_n 0, 1) := by decide +kernel
theorem dX2_addStep_5 : decode cX2_addStep 5 = .ok (.getfield 25, 3) := by decide +kernel
theorem dX2_addStep_8 : decode cX2_addStep 8 = .ok (.arraylength, 1) := by decide +kernel
theorem dX2_addStep_9 : decode cX2_addStep 9 = .ok (.if_icmp .ge 33, 3) := by decide +kernel
theorem dX2_addStep_12 : decode cX2_addStep 12 = .ok (.aload_n 0, 1) := by decide +kernel
theorem dX2_addStep_13 : decode cX2_addStep 13 = .ok (.getfield 25, 3) := by decide +kernel
theorem dX2_addStep_16 : decode cX2_addStep 16 = .ok (.aload_n 0, 1) := by decide +kernel
theorem dX2_addStep_17 : decode cX2_addStep 17 = .ok (.getfield 66, 3) := by decide +kernel
theorem dX2_addStep_20 : decode cX2_addStep 20 = .ok (.iload_n 1, 1) := by decide +kernel
theorem dX2_addStep_21 : decode cX2_addStep 21 = .ok (.iastore, 1) := by decide +kernel
theorem dX2_addStep_22 : decode cX2_addStep 22 = .ok (.aload_n 0, 1) := by decide +kernel
theorem dX2_addStep_23 : decode cX2_addStep 23 = .ok (.getfield 29, 3) := by decide +kernel
theorem dX2_addStep_26 : decode cX2_addStep 26 = .ok (.aload_n 0, 1) := by decide +kernel
theorem dX2_addStep_27 : decode cX2_addStep 27 = .ok (.getfield 66, 3) := by decide +kernel
theorem dX2_addStep_30 : decode cX2_addStep 30 = .ok (.iload_n 2, 1) := by decide +kernel
theorem dX2_addStep_31 : decode cX2_addStep 31 = .ok (.iastore, 1) := by decide +kernel
theorem dX2_addStep_32 : decode cX2_addStep 32 = .ok (.aload_n 0, 1) := by decide +kernel
theorem dX2_addStep_33 : decode cX2_addStep 33 = .ok (.dup, 1) := by decide +kernel
theorem dX2_addStep_34 : decode cX2_addStep 34 = .ok (.getfield 66, 3) := by decide +kernel
theorem dX2_addStep_37 : decode cX2_addStep 37 = .ok (.iconst 1, 1) := by decide +kernel
theorem dX2_addStep_38 : decode cX2_addStep 38 = .ok (.iadd, 1) := by decide +kernel
theorem dX2_addStep_39 : decode cX2_addStep 39 = .ok (.putfield 66, 3) := by decide +kernel
theorem dX2_addStep_42 : decode cX2_addStep 42 = .ok (.return_, 1) := by decide +kernel
theorem dX3_init_0 : decode cX3_init 0 = .ok (.aload_n 0, 1) := by decide +kernel
theorem dX3_init_1 : decode cX3_init 1 = .ok (.invokespecial 3, 3) := by decide +kernel
theorem dX3_init_4 : decode cX3_init 4 = .ok (.aload_n 0, 1) := by decide +kernel
theorem dX3_init_5 : decode cX3_init 5 = .ok (.bipush 50, 2) := by decide +kernel
theorem dX3_init_7 : decode cX3_init 7 = .ok (.newarray .int, 2) := by decide +kernel
theorem dX3_init_9 : decode cX3_init 9 = .ok (.putfield 9, 3) := by decide +kernel
theorem dX3_init_12 : decode cX3_init 12 = .ok (.aload_n 0, 1) := by decide +kernel
theorem dX3_init_13 : decode cX3_init 13 = .ok (.bipush 50, 2) := by decide +kernel
theorem dX3_init_15 : decode cX3_init 15 = .ok (.newarray .int, 2) := by decide +kernel
theorem dX3_init_17 : decode cX3_init 17 = .ok (.putfield 15, 3) := by decide +kernel
theorem dX3_init_20 : decode cX3_init 20 = .ok (.aload_n 0, 1) := by decide +kernel
theorem dX3_init_21 : decode cX3_init 21 = .ok (.bipush 50, 2) := by decide +kernel
theorem dX3_init_23 : decode cX3_init 23 = .ok (.newarray .int, 2) := by decide +kernel
theorem dX3_init_25 : decode cX3_init 25 = .ok (.putfield 18, 3) := by decide +kernel
theorem dX3_init_28 : decode cX3_init 28 = .ok (.aload_n 0, 1) := by decide +kernel
theorem dX3_init_29 : decode cX3_init 29 = .ok (.bipush 50, 2) := by decide +kernel
theorem dX3_init_31 : decode cX3_init 31 = .ok (.newarray .int, 2) := by decide +kernel
theorem dX3_init_33 : decode cX3_init 33 = .ok (.putfield 21, 3) := by decide +kernel
theorem dX3_init_36 : decode cX3_init 36 = .ok (.aload_n 0, 1) := by decide +kernel
theorem dX3_init_37 : decode cX3_init 37 = .ok (.bipush 50, 2) := by decide +kernel
theorem dX3_init_39 : decode cX3_init 39 = .ok (.newarray .int, 2) := by decide +kernel
theorem dX3_init_41 : decode cX3_init 41 = .ok (.putfield 24, 3) := by decide +kernel
theorem dX3_init_44 : decode cX3_init 44 = .ok (.return_, 1) := by decide +kernel
theorem dX3_has_0 : decode cX3_has 0 = .ok (.iload_n 1, 1) := by decide +kernel
theorem dX3_has_1 : decode cX3_has 1 = .ok (.ifCond .lt 15, 3) := by decide +kernel
theorem dX3_has_4 : decode cX3_has 4 = .ok (.iload_n 1, 1) := by decide +kernel
theorem dX3_has_5 : decode cX3_has 5 = .ok (.aload_n 0, 1) := by decide +kernel
theorem dX3_has_6 : decode cX3_has 6 = .ok (.getfield 27, 3) := by decide +kernel
theorem dX3_has_9 : decode cX3_has 9 = .ok (.if_icmp .ge 7, 3) := by decide +kernel
theorem dX3_has_12 : decode cX3_has 12 = .ok (.iconst 1, 1) := by decide +kernel
theorem dX3_has_13 : decode cX3_has 13 = .ok (.goto 4, 3) := by decide +kernel
theorem dX3_has_16 : decode cX3_has 16 = .ok (.iconst 0, 1) := by decide +kernel
theorem dX3_has_17 : decode cX3_has 17 = .ok (.ireturn, 1) := by decide +kernel
theorem dX3_add_0 : decode cX3_add 0 = .ok (.aload_n 0, 1) := by decide +kernel
theorem dX3_add_1 : decode cX3_add 1 = .ok (.getfield 27, 3) := by decide +kernel
theorem dX3_add_4 : decode cX3_add 4 = .ok (.bipush 50, 2) := by decide +kernel
theorem dX3_add_6 : decode cX3_add 6 = .ok (.if_icmp .lt 6, 3) := by decide +kernel
theorem dX3_add_9 : decode cX3_add 9 = .ok (.bipush (-4), 2) := by decide +kernel
theorem dX3_add_11 : decode cX3_add 11 = .ok (.ireturn, 1) := by decide +kernel
theorem dX3_add_12 : decode cX3_add 12 = .ok (.aload_n 0, 1) := by decide +kernel
theorem dX3_add_13 : decode cX3_add 13 = .ok (.getfield 9, 3) := by decide +kernel
theorem dX3_add_16 : decode cX3_add 16 = .ok (.aload_n 0, 1) := by decide +kernel
theorem dX3_add_17 : decode cX3_add 17 = .ok (.getfield 27, 3) := by decide +kernel
theorem dX3_add_20 : decode cX3_add 20 = .ok (.iload_n 1, 1) := by decide +kernel
theorem dX3_add_21 : decode cX3_add 21 = .ok (.iastore, 1) := by decide +kernel
theorem dX3_add_22 : decode cX3_add 22 = .ok (.aload_n 0, 1) := by decide +kernel
theorem dX3_add_23 : decode cX3_add 23 = .ok (.getfield 15, 3) := by decide +kernel
theorem dX3_add_26 : decode cX3_add 26 = .ok (.aload_n 0, 1) := by decide +kernel
theorem dX3_add_27 : decode cX3_add 27 = .ok (.getfield 27, 3) := by decide +kernel
theorem dX3_add_30 : decode cX3_add 30 = .ok (.iload_n 2, 1) := by decide +kernel
theorem dX3_add_31 : decode cX3_add 31 = .ok (.iastore, 1) := by decide +kernel
theorem dX3_add_32 : decode cX3_add 32 = .ok (.aload_n 0, 1) := by decide +kernel
theorem dX3_add_33 : decode cX3_add 33 = .ok (.getfield 18, 3) := by decide +kernel
theorem dX3_add_36 : decode cX3_add 36 = .ok (.aload_n 0, 1) := by decide +kernel
theorem dX3_add_37 : decode cX3_add 37 = .ok (.getfield 27, 3) := by decide +kernel
theorem dX3_add_40 : decode cX3_add 40 = .ok (.iload_n 3, 1) := by decide +kernel
theorem dX3_add_41 : decode cX3_add 41 = .ok (.iastore, 1) := by decide +kernel
theorem dX3_add_42 : decode cX3_add 42 = .ok (.aload_n 0, 1) := by decide +kernel
theorem dX3_add_43 : decode cX3_add 43 = .ok (.getfield 21, 3) := by decide +kernel
theorem dX3_add_46 : decode cX3_add 46 = .ok (.aload_n 0, 1) := by decide +kernel
theorem dX3_add_47 : decode cX3_add 47 = .ok (.getfield 27, 3) := by decide +kernel
theorem dX3_add_50 : decode cX3_add 50 = .ok (.iload 4, 2) := by decide +kernel
theorem dX3_add_52 : decode cX3_add 52 = .ok (.iastore, 1) := by decide +kernel
theorem dX3_add_53 : decode cX3_add 53 = .ok (.aload_n 0, 1) := by decide +kernel
theorem dX3_add_54 : decode cX3_add 54 = .ok (.getfield 24, 3) := by decide +kernel
theorem dX3_add_57 : decode cX3_add 57 = .ok (.aload_n 0, 1) := by decide +kernel
theorem dX3_add_58 : decode cX3_add 58 = .ok (.getfield 27, 3) := by decide +kernel
theorem dX3_add_61 : decode cX3_add 61 = .ok (.aload_n 0, 1) := by decide +kernel
theorem dX3_add_62 : decode cX3_add 62 = .ok (.aload_n 0, 1) := by decide +kernel
theorem dX3_add_63 : decode cX3_add 63 = .ok (.getfield 27, 3) := by decide +kernel
theorem dX3_add_66 : decode cX3_add 66 = .ok (.invokevirtual 31, 3) := by decide +kernel
theorem dX3_add_69 : decode cX3_add 69 = .ok (.iastore, 1) := by decide +kernel
theorem dX3_add_70 : decode cX3_add 70 = .ok (.aload_n 0, 1) := by decide +kernel
theorem dX3_add_71 : decode cX3_add 71 = .ok (.dup, 1) := by decide +kernel
theorem dX3_add_72 : decode cX3_add 72 = .ok (.getfield 27, 3) := by decide +kernel
theorem dX3_add_75 : decode cX3_add 75 = .ok (.iconst 1, 1) := by decide +kernel
theorem dX3_add_76 : decode cX3_add 76 = .ok (.iadd, 1) := by decide +kernel
theorem dX3_add_77 : decode cX3_add 77 = .ok (.putfield 27, 3) := by decide +kernel
theorem dX3_add_80 : decode cX3_add 80 = .ok (.aload_n 0, 1) := by decide +kernel
theorem dX3_add_81 : decode cX3_add 81 = .ok (.getfield 27, 3) := by decide +kernel
theorem dX3_add_84 : decode cX3_add 84 = .ok (.iconst 1, 1) := by decide +kernel
theorem dX3_add_85 : decode cX3_add 85 = .ok (.isub, 1) := by decide +kernel
theorem dX3_add_86 : decode cX3_add 86 = .ok (.ireturn, 1) := by decide +kernel
theorem dX3_answersOfRule_0 : decode cX3_answersOfRule 0 = .ok (.iload_n 1, 1) := by decide +kernel
theorem dX3_answersOfRule_1 : decode cX3_answersOfRule 1 = .ok (.bipush (-9), 2) := by decide +kernel
theorem dX3_answersOfRule_3 : decode cX3_answersOfRule 3 = .ok (.if_icmp .ne 7, 3) := by decide +kernel
theorem dX3_answersOfRule_6 : decode cX3_answersOfRule 6 = .ok (.iconst 0, 1) := by decide +kernel
theorem dX3_answersOfRule_7 : decode cX3_answersOfRule 7 = .ok (.goto 9, 3) := by decide +kernel
theorem dX3_answersOfRule_10 : decode cX3_answersOfRule 10 = .ok (.aload_n 0, 1) := by decide +kernel
theorem dX3_answersOfRule_11 : decode cX3_answersOfRule 11 = .ok (.getfield 24, 3) := by decide +kernel
theorem dX3_answersOfRule_14 : decode cX3_answersOfRule 14 = .ok (.iload_n 1, 1) := by decide +kernel
theorem dX3_answersOfRule_15 : decode cX3_answersOfRule 15 = .ok (.iaload, 1) := by decide +kernel
theorem dX3_answersOfRule_16 : decode cX3_answersOfRule 16 = .ok (.ireturn, 1) := by decide +kernel
theorem dX3_gatherAnswers_0 : decode cX3_gatherAnswers 0 = .ok (.aload_n 0, 1) := by decide +kernel
theorem dX3_gatherAnswers_1 : decode cX3_gatherAnswers 1 = .ok (.getfield 9, 3) := by decide +kernel
theorem dX3_gatherAnswers_4 : decode cX3_gatherAnswers 4 = .ok (.iload_n 1, 1) := by decide +kernel
theorem dX3_gatherAnswers_5 : decode cX3_gatherAnswers 5 = .ok (.iaload, 1) := by decide +kernel
theorem dX3_gatherAnswers_6 : decode cX3_gatherAnswers 6 = .ok (.tableswitch 121 0 11 #[62, 64, 121, 121, 121, 121, 121, 121, 121, 73, 64, 85], 62) := by decide +kernel
theorem dX3_gatherAnswers_68 : decode cX3_gatherAnswers 68 = .ok (.iconst 0, 1) := by decide +kernel
theorem dX3_gatherAnswers_69 : decode cX3_gatherAnswers 69 = .ok (.ireturn, 1) := by decide +kernel
theorem dX3_gatherAnswers_70 : decode cX3_gatherAnswers 70 = .ok (.iconst 1, 1) := by decide +kernel
theorem dX3_gatherAnswers_71 : decode cX3_gatherAnswers 71 = .ok (.aload_n 0, 1) := by decide +kernel
theorem dX3_gatherAnswers_72 : decode cX3_gatherAnswers 72 = .ok (.getfield 15, 3) := by decide +kernel
theorem dX3_gatherAnswers_75 : decode cX3_gatherAnswers 75 = .ok (.iload_n 1, 1) := by decide +kernel
theorem dX3_gatherAnswers_76 : decode cX3_gatherAnswers 76 = .ok (.iaload, 1) := by decide +kernel
theorem dX3_gatherAnswers_77 : decode cX3_gatherAnswers 77 = .ok (.ishl, 1) := by decide +kernel
theorem dX3_gatherAnswers_78 : decode cX3_gatherAnswers 78 = .ok (.ireturn, 1) := by decide +kernel
theorem dX3_gatherAnswers_79 : decode cX3_gatherAnswers 79 = .ok (.aload_n 0, 1) := by decide +kernel
theorem dX3_gatherAnswers_80 : decode cX3_gatherAnswers 80 = .ok (.getfield 24, 3) := by decide +kernel
theorem dX3_gatherAnswers_83 : decode cX3_gatherAnswers 83 = .ok (.aload_n 0, 1) := by decide +kernel
theorem dX3_gatherAnswers_84 : decode cX3_gatherAnswers 84 = .ok (.getfield 15, 3) := by decide +kernel
theorem dX3_gatherAnswers_87 : decode cX3_gatherAnswers 87 = .ok (.iload_n 1, 1) := by decide +kernel
theorem dX3_gatherAnswers_88 : decode cX3_gatherAnswers 88 = .ok (.iaload, 1) := by decide +kernel
theorem dX3_gatherAnswers_89 : decode cX3_gatherAnswers 89 = .ok (.iaload, 1) := by decide +kernel
theorem dX3_gatherAnswers_90 : decode cX3_gatherAnswers 90 = .ok (.ireturn, 1) := by decide +kernel
theorem dX3_gatherAnswers_91 : decode cX3_gatherAnswers 91 = .ok (.aload_n 0, 1) := by decide +kernel
theorem dX3_gatherAnswers_92 : decode cX3_gatherAnswers 92 = .ok (.getfield 24, 3) := by decide +kernel
theorem dX3_gatherAnswers_95 : decode cX3_gatherAnswers 95 = .ok (.aload_n 0, 1) := by decide +kernel
theorem dX3_gatherAnswers_96 : decode cX3_gatherAnswers 96 = .ok (.getfield 15, 3) := by decide +kernel
theorem dX3_gatherAnswers_99 : decode cX3_gatherAnswers 99 = .ok (.iload_n 1, 1) := by decide +kernel
theorem dX3_gatherAnswers_100 : decode cX3_gatherAnswers 100 = .ok (.iaload, 1) := by decide +kernel
theorem dX3_gatherAnswers_101 : decode cX3_gatherAnswers 101 = .ok (.iaload, 1) := by decide +kernel
theorem dX3_gatherAnswers_102 : decode cX3_gatherAnswers 102 = .ok (.aload_n 0, 1) := by decide +kernel
theorem dX3_gatherAnswers_103 : decode cX3_gatherAnswers 103 = .ok (.getfield 24, 3) := by decide +kernel
theorem dX3_gatherAnswers_106 : decode cX3_gatherAnswers 106 = .ok (.aload_n 0, 1) := by decide +kernel
theorem dX3_gatherAnswers_107 : decode cX3_gatherAnswers 107 = .ok (.getfield 18, 3) := by decide +kernel
theorem dX3_gatherAnswers_110 : decode cX3_gatherAnswers 110 = .ok (.iload_n 1, 1) := by decide +kernel
theorem dX3_gatherAnswers_111 : decode cX3_gatherAnswers 111 = .ok (.iaload, 1) := by decide +kernel
theorem dX3_gatherAnswers_112 : decode cX3_gatherAnswers 112 = .ok (.iaload, 1) := by decide +kernel
theorem dX3_gatherAnswers_113 : decode cX3_gatherAnswers 113 = .ok (.ior, 1) := by decide +kernel
theorem dX3_gatherAnswers_114 : decode cX3_gatherAnswers 114 = .ok (.aload_n 0, 1) := by decide +kernel
theorem dX3_gatherAnswers_115 : decode cX3_gatherAnswers 115 = .ok (.getfield 24, 3) := by decide +kernel
theorem dX3_gatherAnswers_118 : decode cX3_gatherAnswers 118 = .ok (.aload_n 0, 1) := by decide +kernel
theorem dX3_gatherAnswers_119 : decode cX3_gatherAnswers 119 = .ok (.getfield 21, 3) := by decide +kernel
theorem dX3_gatherAnswers_122 : decode cX3_gatherAnswers 122 = .ok (.iload_n 1, 1) := by decide +kernel
theorem dX3_gatherAnswers_123 : decode cX3_gatherAnswers 123 = .ok (.iaload, 1) := by decide +kernel
theorem dX3_gatherAnswers_124 : decode cX3_gatherAnswers 124 = .ok (.iaload, 1) := by decide +kernel
theorem dX3_gatherAnswers_125 : decode cX3_gatherAnswers 125 = .ok (.ior, 1) := by decide +kernel
theorem dX3_gatherAnswers_126 : decode cX3_gatherAnswers 126 = .ok (.ireturn, 1) := by decide +kernel
theorem dX3_gatherAnswers_127 : decode cX3_gatherAnswers 127 = .ok (.aload_n 0, 1) := by decide +kernel
theorem dX3_gatherAnswers_128 : decode cX3_gatherAnswers 128 = .ok (.getfield 24, 3) := by decide +kernel
theorem dX3_gatherAnswers_131 : decode cX3_gatherAnswers 131 = .ok (.aload_n 0, 1) := by decide +kernel
theorem dX3_gatherAnswers_132 : decode cX3_gatherAnswers 132 = .ok (.getfield 15, 3) := by decide +kernel
theorem dX3_gatherAnswers_135 : decode cX3_gatherAnswers 135 = .ok (.iload_n 1, 1) := by decide +kernel
theorem dX3_gatherAnswers_136 : decode cX3_gatherAnswers 136 = .ok (.iaload, 1) := by decide +kernel
theorem dX3_gatherAnswers_137 : decode cX3_gatherAnswers 137 = .ok (.iaload, 1) := by decide +kernel
theorem dX3_gatherAnswers_138 : decode cX3_gatherAnswers 138 = .ok (.aload_n 0, 1) := by decide +kernel
theorem dX3_gatherAnswers_139 : decode cX3_gatherAnswers 139 = .ok (.getfield 24, 3) := by decide +kernel
theorem dX3_gatherAnswers_142 : decode cX3_gatherAnswers 142 = .ok (.aload_n 0, 1) := by decide +kernel
theorem dX3_gatherAnswers_143 : decode cX3_gatherAnswers 143 = .ok (.getfield 18, 3) := by decide +kernel
theorem dX3_gatherAnswers_146 : decode cX3_gatherAnswers 146 = .ok (.iload_n 1, 1) := by decide +kernel
theorem dX3_gatherAnswers_147 : decode cX3_gatherAnswers 147 = .ok (.iaload, 1) := by decide +kernel
theorem dX3_gatherAnswers_148 : decode cX3_gatherAnswers 148 = .ok (.iaload, 1) := by decide +kernel
theorem dX3_gatherAnswers_149 : decode cX3_gatherAnswers 149 = .ok (.ior, 1) := by decide +kernel
theorem dX3_gatherAnswers_150 : decode cX3_gatherAnswers 150 = .ok (.ireturn, 1) := by decide +kernel
theorem dX4_init_0 : decode cX4_init 0 = .ok (.aload_n 0, 1) := by decide +kernel
theorem dX4_init_1 : decode cX4_init 1 = .ok (.invokespecial 3, 3) := by decide +kernel
theorem dX4_init_4 : decode cX4_init 4 = .ok (.aload_n 0, 1) := by decide +kernel
theorem dX4_init_5 : decode cX4_init 5 = .ok (.bipush 12, 2) := by decide +kernel
theorem dX4_init_7 : decode cX4_init 7 = .ok (.newarray .int, 2) := by decide +kernel
theorem dX4_init_9 : decode cX4_init 9 = .ok (.putfield 9, 3) := by decide +kernel
theorem dX4_init_12 : decode cX4_init 12 = .ok (.return_, 1) := by decide +kernel
theorem dX4_follow_0 : decode cX4_follow 0 = .ok (.iload_n 2, 1) := by decide +kernel
theorem dX4_follow_1 : decode cX4_follow 1 = .ok (.istore 4, 2) := by decide +kernel
theorem dX4_follow_3 : decode cX4_follow 3 = .ok (.iload_n 3, 1) := by decide +kernel
theorem dX4_follow_4 : decode cX4_follow 4 = .ok (.istore 5, 2) := by decide +kernel
theorem dX4_follow_6 : decode cX4_follow 6 = .ok (.aload_n 0, 1) := by decide +kernel
theorem dX4_follow_7 : decode cX4_follow 7 = .ok (.iconst 0, 1) := by decide +kernel
theorem dX4_follow_8 : decode cX4_follow 8 = .ok (.putfield 15, 3) := by decide +kernel
theorem dX4_follow_11 : decode cX4_follow 11 = .ok (.aload_n 0, 1) := by decide +kernel
theorem dX4_follow_12 : decode cX4_follow 12 = .ok (.getfield 15, 3) := by decide +kernel
theorem dX4_follow_15 : decode cX4_follow 15 = .ok (.bipush 12, 2) := by decide +kernel
theorem dX4_follow_17 : decode cX4_follow 17 = .ok (.if_icmp .ge 73, 3) := by decide +kernel
theorem dX4_follow_20 : decode cX4_follow 20 = .ok (.iload 4, 2) := by decide +kernel
theorem dX4_follow_22 : decode cX4_follow 22 = .ok (.bipush (-9), 2) := by decide +kernel
theorem dX4_follow_24 : decode cX4_follow 24 = .ok (.if_icmp .eq 66, 3) := by decide +kernel
theorem dX4_follow_27 : decode cX4_follow 27 = .ok (.aload_n 0, 1) := by decide +kernel
theorem dX4_follow_28 : decode cX4_follow 28 = .ok (.getfield 9, 3) := by decide +kernel
theorem dX4_follow_31 : decode cX4_follow 31 = .ok (.aload_n 0, 1) := by decide +kernel
theorem dX4_follow_32 : decode cX4_follow 32 = .ok (.getfield 15, 3) := by decide +kernel
theorem dX4_follow_35 : decode cX4_follow 35 = .ok (.iload 4, 2) := by decide +kernel
theorem dX4_follow_37 : decode cX4_follow 37 = .ok (.iastore, 1) := by decide +kernel
theorem dX4_follow_38 : decode cX4_follow 38 = .ok (.aload_n 0, 1) := by decide +kernel
theorem dX4_follow_39 : decode cX4_follow 39 = .ok (.dup, 1) := by decide +kernel
theorem dX4_follow_40 : decode cX4_follow 40 = .ok (.getfield 15, 3) := by decide +kernel
theorem dX4_follow_43 : decode cX4_follow 43 = .ok (.iconst 1, 1) := by decide +kernel
theorem dX4_follow_44 : decode cX4_follow 44 = .ok (.iadd, 1) := by decide +kernel
theorem dX4_follow_45 : decode cX4_follow 45 = .ok (.putfield 15, 3) := by decide +kernel
theorem dX4_follow_48 : decode cX4_follow 48 = .ok (.iload 5, 2) := by decide +kernel
theorem dX4_follow_50 : decode cX4_follow 50 = .ok (.iload_n 2, 1) := by decide +kernel
theorem dX4_follow_51 : decode cX4_follow 51 = .ok (.invokestatic 19, 3) := by decide +kernel
theorem dX4_follow_54 : decode cX4_follow 54 = .ok (.ifCond .eq 4, 3) := by decide +kernel
theorem dX4_follow_57 : decode cX4_follow 57 = .ok (.return_, 1) := by decide +kernel
theorem dX4_follow_58 : decode cX4_follow 58 = .ok (.aload_n 1, 1) := by decide +kernel
theorem dX4_follow_59 : decode cX4_follow 59 = .ok (.iload 5, 2) := by decide +kernel
theorem dX4_follow_61 : decode cX4_follow 61 = .ok (.iload_n 2, 1) := by decide +kernel
theorem dX4_follow_62 : decode cX4_follow 62 = .ok (.invokevirtual 23, 3) := by decide +kernel
theorem dX4_follow_65 : decode cX4_follow 65 = .ok (.istore 4, 2) := by decide +kernel
theorem dX4_follow_67 : decode cX4_follow 67 = .ok (.iload 4, 2) := by decide +kernel
theorem dX4_follow_69 : decode cX4_follow 69 = .ok (.bipush (-9), 2) := by decide +kernel
theorem dX4_follow_71 : decode cX4_follow 71 = .ok (.if_icmp .ne 7, 3) := by decide +kernel
theorem dX4_follow_74 : decode cX4_follow 74 = .ok (.iconst 0, 1) := by decide +kernel
theorem dX4_follow_75 : decode cX4_follow 75 = .ok (.goto 10, 3) := by decide +kernel
theorem dX4_follow_78 : decode cX4_follow 78 = .ok (.aload_n 1, 1) := by decide +kernel
theorem dX4_follow_79 : decode cX4_follow 79 = .ok (.getfield 29, 3) := by decide +kernel
theorem dX4_follow_82 : decode cX4_follow 82 = .ok (.iload 4, 2) := by decide +kernel
theorem dX4_follow_84 : decode cX4_follow 84 = .ok (.iaload, 1) := by decide +kernel
theorem dX4_follow_85 : decode cX4_follow 85 = .ok (.istore 5, 2) := by decide +kernel
theorem dX4_follow_87 : decode cX4_follow 87 = .ok (.goto (-76), 3) := by decide +kernel
theorem dX4_follow_90 : decode cX4_follow 90 = .ok (.return_, 1) := by decide +kernel
theorem dX5_init_0 : decode cX5_init 0 = .ok (.aload_n 0, 1) := by decide +kernel
theorem dX5_init_1 : decode cX5_init 1 = .ok (.invokespecial 3, 3) := by decide +kernel
theorem dX5_init_4 : decode cX5_init 4 = .ok (.aload_n 0, 1) := by decide +kernel
theorem dX5_init_5 : decode cX5_init 5 = .ok (.bipush 6, 2) := by decide +kernel
theorem dX5_init_7 : decode cX5_init 7 = .ok (.newarray .int, 2) := by decide +kernel
theorem dX5_init_9 : decode cX5_init 9 = .ok (.putfield 9, 3) := by decide +kernel
theorem dX5_init_12 : decode cX5_init 12 = .ok (.aload_n 0, 1) := by decide +kernel
theorem dX5_init_13 : decode cX5_init 13 = .ok (.bipush 6, 2) := by decide +kernel
theorem dX5_init_15 : decode cX5_init 15 = .ok (.newarray .int, 2) := by decide +kernel
theorem dX5_init_17 : decode cX5_init 17 = .ok (.putfield 15, 3) := by decide +kernel
theorem dX5_init_20 : decode cX5_init 20 = .ok (.aload_n 0, 1) := by decide +kernel
theorem dX5_init_21 : decode cX5_init 21 = .ok (.bipush 6, 2) := by decide +kernel
theorem dX5_init_23 : decode cX5_init 23 = .ok (.newarray .boolean, 2) := by decide +kernel
theorem dX5_init_25 : decode cX5_init 25 = .ok (.putfield 18, 3) := by decide +kernel
theorem dX5_init_28 : decode cX5_init 28 = .ok (.aload_n 0, 1) := by decide +kernel
theorem dX5_init_29 : decode cX5_init 29 = .ok (.bipush 6, 2) := by decide +kernel
theorem dX5_init_31 : decode cX5_init 31 = .ok (.bipush 12, 2) := by decide +kernel
theorem dX5_init_33 : decode cX5_init 33 = .ok (.multianewarray 22 2, 4) := by decide +kernel
theorem dX5_init_37 : decode cX5_init 37 = .ok (.putfield 24, 3) := by decide +kernel
theorem dX5_init_40 : decode cX5_init 40 = .ok (.aload_n 0, 1) := by decide +kernel
theorem dX5_init_41 : decode cX5_init 41 = .ok (.bipush 6, 2) := by decide +kernel
theorem dX5_init_43 : decode cX5_init 43 = .ok (.bipush 12, 2) := by decide +kernel
theorem dX5_init_45 : decode cX5_init 45 = .ok (.multianewarray 22 2, 4) := by decide +kernel
theorem dX5_init_49 : decode cX5_init 49 = .ok (.putfield 27, 3) := by decide +kernel
theorem dX5_init_52 : decode cX5_init 52 = .ok (.return_, 1) := by decide +kernel
theorem dX5_has_0 : decode cX5_has 0 = .ok (.iload_n 1, 1) := by decide +kernel
theorem dX5_has_1 : decode cX5_has 1 = .ok (.ifCond .lt 15, 3) := by decide +kernel
theorem dX5_has_4 : decode cX5_has 4 = .ok (.iload_n 1, 1) := by decide +kernel
theorem dX5_has_5 : decode cX5_has 5 = .ok (.aload_n 0, 1) := by decide +kernel
theorem dX5_has_6 : decode cX5_has 6 = .ok (.getfield 30, 3) := by decide +kernel
theorem dX5_has_9 : decode cX5_has 9 = .ok (.if_icmp .ge 7, 3) := by decide +kernel
theorem dX5_has_12 : decode cX5_has 12 = .ok (.iconst 1, 1) := by decide +kernel
theorem dX5_has_13 : decode cX5_has 13 = .ok (.goto 4, 3) := by decide +kernel
theorem dX5_has_16 : decode cX5_has 16 = .ok (.iconst 0, 1) := by decide +kernel
theorem dX5_has_17 : decode cX5_has 17 = .ok (.ireturn, 1) := by decide +kernel
theorem dX5_add_0 : decode cX5_add 0 = .ok (.aload_n 0, 1) := by decide +kernel
theorem dX5_add_1 : decode cX5_add 1 = .ok (.getfield 30, 3) := by decide +kernel
theorem dX5_add_4 : decode cX5_add 4 = .ok (.bipush 6, 2) := by decide +kernel
theorem dX5_add_6 : decode cX5_add 6 = .ok (.if_icmp .lt 6, 3) := by decide +kernel
theorem dX5_add_9 : decode cX5_add 9 = .ok (.bipush (-4), 2) := by decide +kernel
theorem dX5_add_11 : decode cX5_add 11 = .ok (.ireturn, 1) := by decide +kernel
theorem dX5_add_12 : decode cX5_add 12 = .ok (.aload_n 0, 1) := by decide +kernel
theorem dX5_add_13 : decode cX5_add 13 = .ok (.getfield 9, 3) := by decide +kernel
theorem dX5_add_16 : decode cX5_add 16 = .ok (.aload_n 0, 1) := by decide +kernel
theorem dX5_add_17 : decode cX5_add 17 = .ok (.getfield 30, 3) := by decide +kernel
theorem dX5_add_20 : decode cX5_add 20 = .ok (.iload_n 1, 1) := by decide +kernel
theorem dX5_add_21 : decode cX5_add 21 = .ok (.iastore, 1) := by decide +kernel
theorem dX5_add_22 : decode cX5_add 22 = .ok (.aload_n 0, 1) := by decide +kernel
theorem dX5_add_23 : decode cX5_add 23 = .ok (.getfield 15, 3) := by decide +kernel
theorem dX5_add_26 : decode cX5_add 26 = .ok (.aload_n 0, 1) := by decide +kernel
theorem dX5_add_27 : decode cX5_add 27 = .ok (.getfield 30, 3) := by decide +kernel
theorem dX5_add_30 : decode cX5_add 30 = .ok (.iload_n 2, 1) := by decide +kernel
theorem dX5_add_31 : decode cX5_add 31 = .ok (.iastore, 1) := by decide +kernel
theorem dX5_add_32 : decode cX5_add 32 = .ok (.iconst 0, 1) := by decide +kernel
theorem dX5_add_33 : decode cX5_add 33 = .ok (.istore 6, 2) := by decide +kernel
theorem dX5_add_35 : decode cX5_add 35 = .ok (.iload 6, 2) := by decide +kernel
theorem dX5_add_37 : decode cX5_add 37 = .ok (.bipush 12, 2) := by decide +kernel
theorem dX5_add_39 : decode cX5_add 39 = .ok (.if_icmp .ge 74, 3) := by decide +kernel
theorem dX5_add_42 : decode cX5_add 42 = .ok (.iload_n 2, 1) := by decide +kernel
theorem dX5_add_43 : decode cX5_add 43 = .ok (.iload 6, 2) := by decide +kernel
theorem dX5_add_45 : decode cX5_add 45 = .ok (.invokestatic 34, 3) := by decide +kernel
theorem dX5_add_48 : decode cX5_add 48 = .ok (.istore 7, 2) := by decide +kernel
theorem dX5_add_50 : decode cX5_add 50 = .ok (.aload_n 0, 1) := by decide +kernel
theorem dX5_add_51 : decode cX5_add 51 = .ok (.getfield 24, 3) := by decide +kernel
theorem dX5_add_54 : decode cX5_add 54 = .ok (.aload_n 0, 1) := by decide +kernel
theorem dX5_add_55 : decode cX5_add 55 = .ok (.getfield 30, 3) := by decide +kernel
theorem dX5_add_58 : decode cX5_add 58 = .ok (.aaload, 1) := by decide +kernel
theorem dX5_add_59 : decode cX5_add 59 = .ok (.iload 6, 2) := by decide +kernel
theorem dX5_add_61 : decode cX5_add 61 = .ok (.iload 7, 2) := by decide +kernel
theorem dX5_add_63 : decode cX5_add 63 = .ok (.ifCond .eq 10, 3) := by decide +kernel
theorem dX5_add_66 : decode cX5_add 66 = .ok (.aload_n 3, 1) := by decide +kernel
theorem dX5_add_67 : decode cX5_add 67 = .ok (.iload 6, 2) := by decide +kernel
theorem dX5_add_69 : decode cX5_add 69 = .ok (.iaload, 1) := by decide +kernel
theorem dX5_add_70 : decode cX5_add 70 = .ok (.goto 5, 3) := by decide +kernel
theorem dX5_add_73 : decode cX5_add 73 = .ok (.ldc 38, 2) := by decide +kernel
theorem dX5_add_75 : decode cX5_add 75 = .ok (.iastore, 1) := by decide +kernel
theorem dX5_add_76 : decode cX5_add 76 = .ok (.aload_n 0, 1) := by decide +kernel
theorem dX5_add_77 : decode cX5_add 77 = .ok (.getfield 27, 3) := by decide +kernel
theorem dX5_add_80 : decode cX5_add 80 = .ok (.aload_n 0, 1) := by decide +kernel
theorem dX5_add_81 : decode cX5_add 81 = .ok (.getfield 30, 3) := by decide +kernel
theorem dX5_add_84 : decode cX5_add 84 = .ok (.aaload, 1) := by decide +kernel
theorem dX5_add_85 : decode cX5_add 85 = .ok (.iload 6, 2) := by decide +kernel
theorem dX5_add_87 : decode cX5_add 87 = .ok (.iload 7, 2) := by decide +kernel
theorem dX5_add_89 : decode cX5_add 89 = .ok (.ifCond .eq 15, 3) := by decide +kernel
theorem dX5_add_92 : decode cX5_add 92 = .ok (.aload 5, 2) := by decide +kernel
theorem dX5_add_94 : decode cX5_add 94 = .ok (.aload 4, 2) := by decide +kernel
theorem dX5_add_96 : decode cX5_add 96 = .ok (.iload 6, 2) := by decide +kernel
theorem dX5_add_98 : decode cX5_add 98 = .ok (.invokevirtual 39, 3) := by decide +kernel
theorem dX5_add_101 : decode cX5_add 101 = .ok (.goto 5, 3) := by decide +kernel
theorem dX5_add_104 : decode cX5_add 104 = .ok (.bipush (-9), 2) := by decide +kernel
theorem dX5_add_106 : decode cX5_add 106 = .ok (.iastore, 1) := by decide +kernel
theorem dX5_add_107 : decode cX5_add 107 = .ok (.iinc 6 1, 3) := by decide +kernel
theorem dX5_add_110 : decode cX5_add 110 = .ok (.goto (-75), 3) := by decide +kernel
theorem dX5_add_113 : decode cX5_add 113 = .ok (.aload_n 0, 1) := by decide +kernel
theorem dX5_add_114 : decode cX5_add 114 = .ok (.dup, 1) := by decide +kernel
theorem dX5_add_115 : decode cX5_add 115 = .ok (.getfield 30, 3) := by decide +kernel
theorem dX5_add_118 : decode cX5_add 118 = .ok (.iconst 1, 1) := by decide +kernel
theorem dX5_add_119 : decode cX5_add 119 = .ok (.iadd, 1) := by decide +kernel
theorem dX5_add_120 : decode cX5_add 120 = .ok (.putfield 30, 3) := by decide +kernel
theorem dX5_add_123 : decode cX5_add 123 = .ok (.aload_n 0, 1) := by decide +kernel
theorem dX5_add_124 : decode cX5_add 124 = .ok (.getfield 30, 3) := by decide +kernel
theorem dX5_add_127 : decode cX5_add 127 = .ok (.iconst 1, 1) := by decide +kernel
theorem dX5_add_128 : decode cX5_add 128 = .ok (.isub, 1) := by decide +kernel
theorem dX5_add_129 : decode cX5_add 129 = .ok (.ireturn, 1) := by decide +kernel
theorem dX5_unbrokenBits_0 : decode cX5_unbrokenBits 0 = .ok (.iconst 0, 1) := by decide +kernel
theorem dX5_unbrokenBits_1 : decode cX5_unbrokenBits 1 = .ok (.istore_n 2, 1) := by decide +kernel
theorem dX5_unbrokenBits_2 : decode cX5_unbrokenBits 2 = .ok (.iconst 0, 1) := by decide +kernel
theorem dX5_unbrokenBits_3 : decode cX5_unbrokenBits 3 = .ok (.istore_n 3, 1) := by decide +kernel
theorem dX5_unbrokenBits_4 : decode cX5_unbrokenBits 4 = .ok (.iload_n 3, 1) := by decide +kernel
theorem dX5_unbrokenBits_5 : decode cX5_unbrokenBits 5 = .ok (.aload_n 0, 1) := by decide +kernel
theorem dX5_unbrokenBits_6 : decode cX5_unbrokenBits 6 = .ok (.getfield 30, 3) := by decide +kernel
theorem dX5_unbrokenBits_9 : decode cX5_unbrokenBits 9 = .ok (.if_icmp .ge 37, 3) := by decide +kernel
theorem dX5_unbrokenBits_12 : decode cX5_unbrokenBits 12 = .ok (.aload_n 0, 1) := by decide +kernel
theorem dX5_unbrokenBits_13 : decode cX5_unbrokenBits 13 = .ok (.getfield 9, 3) := by decide +kernel
theorem dX5_unbrokenBits_16 : decode cX5_unbrokenBits 16 = .ok (.iload_n 3, 1) := by decide +kernel
theorem dX5_unbrokenBits_17 : decode cX5_unbrokenBits 17 = .ok (.iaload, 1) := by decide +kernel
theorem dX5_unbrokenBits_18 : decode cX5_unbrokenBits 18 = .ok (.iload_n 1, 1) := by decide +kernel
theorem dX5_unbrokenBits_19 : decode cX5_unbrokenBits 19 = .ok (.if_icmp .ne 21, 3) := by decide +kernel
theorem dX5_unbrokenBits_22 : decode cX5_unbrokenBits 22 = .ok (.aload_n 0, 1) := by decide +kernel
theorem dX5_unbrokenBits_23 : decode cX5_unbrokenBits 23 = .ok (.getfield 18, 3) := by decide +kernel
theorem dX5_unbrokenBits_26 : decode cX5_unbrokenBits 26 = .ok (.iload_n 3, 1) := by decide +kernel
theorem dX5_unbrokenBits_27 : decode cX5_unbrokenBits 27 = .ok (.baload, 1) := by decide +kernel
theorem dX5_unbrokenBits_28 : decode cX5_unbrokenBits 28 = .ok (.ifCond .ne 12, 3) := by decide +kernel
theorem dX5_unbrokenBits_31 : decode cX5_unbrokenBits 31 = .ok (.iload_n 2, 1) := by decide +kernel
theorem dX5_unbrokenBits_32 : decode cX5_unbrokenBits 32 = .ok (.aload_n 0, 1) := by decide +kernel
theorem dX5_unbrokenBits_33 : decode cX5_unbrokenBits 33 = .ok (.getfield 15, 3) := by decide +kernel
theorem dX5_unbrokenBits_36 : decode cX5_unbrokenBits 36 = .ok (.iload_n 3, 1) := by decide +kernel
theorem dX5_unbrokenBits_37 : decode cX5_unbrokenBits 37 = .ok (.iaload, 1) := by decide +kernel
theorem dX5_unbrokenBits_38 : decode cX5_unbrokenBits 38 = .ok (.ior, 1) := by decide +kernel
theorem dX5_unbrokenBits_39 : decode cX5_unbrokenBits 39 = .ok (.istore_n 2, 1) := by decide +kernel
theorem dX5_unbrokenBits_40 : decode cX5_unbrokenBits 40 = .ok (.iinc 3 1, 3) := by decide +kernel
theorem dX5_unbrokenBits_43 : decode cX5_unbrokenBits 43 = .ok (.goto (-39), 3) := by decide +kernel
theorem dX5_unbrokenBits_46 : decode cX5_unbrokenBits 46 = .ok (.iload_n 2, 1) := by decide +kernel
theorem dX5_unbrokenBits_47 : decode cX5_unbrokenBits 47 = .ok (.ireturn, 1) := by decide +kernel
theorem dX5_agrees_0 : decode cX5_agrees 0 = .ok (.iconst 0, 1) := by decide +kernel
theorem dX5_agrees_1 : decode cX5_agrees 1 = .ok (.istore 4, 2) := by decide +kernel
theorem dX5_agrees_3 : decode cX5_agrees 3 = .ok (.iload 4, 2) := by decide +kernel
theorem dX5_agrees_5 : decode cX5_agrees 5 = .ok (.aload_n 2, 1) := by decide +kernel
theorem dX5_agrees_6 : decode cX5_agrees 6 = .ok (.getfield 45, 3) := by decide +kernel
theorem dX5_agrees_9 : decode cX5_agrees 9 = .ok (.if_icmp .ge 44, 3) := by decide +kernel
theorem dX5_agrees_12 : decode cX5_agrees 12 = .ok (.aload_n 0, 1) := by decide +kernel
theorem dX5_agrees_13 : decode cX5_agrees 13 = .ok (.getfield 15, 3) := by decide +kernel
theorem dX5_agrees_16 : decode cX5_agrees 16 = .ok (.iload_n 1, 1) := by decide +kernel
theorem dX5_agrees_17 : decode cX5_agrees 17 = .ok (.iaload, 1) := by decide +kernel
theorem dX5_agrees_18 : decode cX5_agrees 18 = .ok (.iload 4, 2) := by decide +kernel
theorem dX5_agrees_20 : decode cX5_agrees 20 = .ok (.invokestatic 34, 3) := by decide +kernel
theorem dX5_agrees_23 : decode cX5_agrees 23 = .ok (.ifCond .eq 24, 3) := by decide +kernel
theorem dX5_agrees_26 : decode cX5_agrees 26 = .ok (.aload_n 3, 1) := by decide +kernel
theorem dX5_agrees_27 : decode cX5_agrees 27 = .ok (.aload_n 2, 1) := by decide +kernel
theorem dX5_agrees_28 : decode cX5_agrees 28 = .ok (.iload 4, 2) := by decide +kernel
theorem dX5_agrees_30 : decode cX5_agrees 30 = .ok (.invokevirtual 39, 3) := by decide +kernel
theorem dX5_agrees_33 : decode cX5_agrees 33 = .ok (.aload_n 0, 1) := by decide +kernel
theorem dX5_agrees_34 : decode cX5_agrees 34 = .ok (.getfield 27, 3) := by decide +kernel
theorem dX5_agrees_37 : decode cX5_agrees 37 = .ok (.iload_n 1, 1) := by decide +kernel
theorem dX5_agrees_38 : decode cX5_agrees 38 = .ok (.aaload, 1) := by decide +kernel
theorem dX5_agrees_39 : decode cX5_agrees 39 = .ok (.iload 4, 2) := by decide +kernel
theorem dX5_agrees_41 : decode cX5_agrees 41 = .ok (.iaload, 1) := by decide +kernel
theorem dX5_agrees_42 : decode cX5_agrees 42 = .ok (.if_icmp .eq 5, 3) := by decide +kernel
theorem dX5_agrees_45 : decode cX5_agrees 45 = .ok (.iconst 0, 1) := by decide +kernel
theorem dX5_agrees_46 : decode cX5_agrees 46 = .ok (.ireturn, 1) := by decide +kernel
theorem dX5_agrees_47 : decode cX5_agrees 47 = .ok (.iinc 4 1, 3) := by decide +kernel
theorem dX5_agrees_50 : decode cX5_agrees 50 = .ok (.goto (-47), 3) := by decide +kernel
theorem dX5_agrees_53 : decode cX5_agrees 53 = .ok (.iconst 1, 1) := by decide +kernel
theorem dX5_agrees_54 : decode cX5_agrees 54 = .ok (.ireturn, 1) := by decide +kernel
theorem dX6_init_0 : decode cX6_init 0 = .ok (.aload_n 0, 1) := by decide +kernel
theorem dX6_init_1 : decode cX6_init 1 = .ok (.invokespecial 3, 3) := by decide +kernel
theorem dX6_init_4 : decode cX6_init 4 = .ok (.aload_n 0, 1) := by decide +kernel
theorem dX6_init_5 : decode cX6_init 5 = .ok (.bipush 50, 2) := by decide +kernel
theorem dX6_init_7 : decode cX6_init 7 = .ok (.newarray .int, 2) := by decide +kernel
theorem dX6_init_9 : decode cX6_init 9 = .ok (.putfield 9, 3) := by decide +kernel
theorem dX6_init_12 : decode cX6_init 12 = .ok (.aload_n 0, 1) := by decide +kernel
theorem dX6_init_13 : decode cX6_init 13 = .ok (.bipush 12, 2) := by decide +kernel
theorem dX6_init_15 : decode cX6_init 15 = .ok (.newarray .boolean, 2) := by decide +kernel
theorem dX6_init_17 : decode cX6_init 17 = .ok (.putfield 15, 3) := by decide +kernel
theorem dX6_init_20 : decode cX6_init 20 = .ok (.aload_n 0, 1) := by decide +kernel
theorem dX6_init_21 : decode cX6_init 21 = .ok (.bipush 12, 2) := by decide +kernel
theorem dX6_init_23 : decode cX6_init 23 = .ok (.newarray .int, 2) := by decide +kernel
theorem dX6_init_25 : decode cX6_init 25 = .ok (.putfield 19, 3) := by decide +kernel
theorem dX6_init_28 : decode cX6_init 28 = .ok (.return_, 1) := by decide +kernel
theorem dX6_look_0 : decode cX6_look 0 = .ok (.iconst 0, 1) := by decide +kernel
theorem dX6_look_1 : decode cX6_look 1 = .ok (.istore_n 3, 1) := by decide +kernel
theorem dX6_look_2 : decode cX6_look 2 = .ok (.iload_n 3, 1) := by decide +kernel
theorem dX6_look_3 : decode cX6_look 3 = .ok (.aload_n 1, 1) := by decide +kernel
theorem dX6_look_4 : decode cX6_look 4 = .ok (.getfield 22, 3) := by decide +kernel
theorem dX6_look_7 : decode cX6_look 7 = .ok (.if_icmp .ge 21, 3) := by decide +kernel
theorem dX6_look_10 : decode cX6_look 10 = .ok (.aload_n 0, 1) := by decide +kernel
theorem dX6_look_11 : decode cX6_look 11 = .ok (.aload_n 1, 1) := by decide +kernel
theorem dX6_look_12 : decode cX6_look 12 = .ok (.aload_n 2, 1) := by decide +kernel
theorem dX6_look_13 : decode cX6_look 13 = .ok (.aload_n 1, 1) := by decide +kernel
theorem dX6_look_14 : decode cX6_look 14 = .ok (.getfield 28, 3) := by decide +kernel
theorem dX6_look_17 : decode cX6_look 17 = .ok (.iload_n 3, 1) := by decide +kernel
theorem dX6_look_18 : decode cX6_look 18 = .ok (.iaload, 1) := by decide +kernel
theorem dX6_look_19 : decode cX6_look 19 = .ok (.invokevirtual 31, 3) := by decide +kernel
theorem dX6_look_22 : decode cX6_look 22 = .ok (.iinc 3 1, 3) := by decide +kernel
theorem dX6_look_25 : decode cX6_look 25 = .ok (.goto (-23), 3) := by decide +kernel
theorem dX6_look_28 : decode cX6_look 28 = .ok (.return_, 1) := by decide +kernel
theorem dX6_lookAgain_0 : decode cX6_lookAgain 0 = .ok (.iconst 0, 1) := by decide +kernel
theorem dX6_lookAgain_1 : decode cX6_lookAgain 1 = .ok (.istore 4, 2) := by decide +kernel
theorem dX6_lookAgain_3 : decode cX6_lookAgain 3 = .ok (.iload 4, 2) := by decide +kernel
theorem dX6_lookAgain_5 : decode cX6_lookAgain 5 = .ok (.aload_n 1, 1) := by decide +kernel
theorem dX6_lookAgain_6 : decode cX6_lookAgain 6 = .ok (.getfield 22, 3) := by decide +kernel
theorem dX6_lookAgain_9 : decode cX6_lookAgain 9 = .ok (.if_icmp .ge 34, 3) := by decide +kernel
theorem dX6_lookAgain_12 : decode cX6_lookAgain 12 = .ok (.aload_n 1, 1) := by decide +kernel
theorem dX6_lookAgain_13 : decode cX6_lookAgain 13 = .ok (.getfield 35, 3) := by decide +kernel
theorem dX6_lookAgain_16 : decode cX6_lookAgain 16 = .ok (.iload 4, 2) := by decide +kernel
theorem dX6_lookAgain_18 : decode cX6_lookAgain 18 = .ok (.iaload, 1) := by decide +kernel
theorem dX6_lookAgain_19 : decode cX6_lookAgain 19 = .ok (.iload_n 3, 1) := by decide +kernel
theorem dX6_lookAgain_20 : decode cX6_lookAgain 20 = .ok (.iand, 1) := by decide +kernel
theorem dX6_lookAgain_21 : decode cX6_lookAgain 21 = .ok (.ifCond .eq 16, 3) := by decide +kernel
theorem dX6_lookAgain_24 : decode cX6_lookAgain 24 = .ok (.aload_n 0, 1) := by decide +kernel
theorem dX6_lookAgain_25 : decode cX6_lookAgain 25 = .ok (.aload_n 1, 1) := by decide +kernel
theorem dX6_lookAgain_26 : decode cX6_lookAgain 26 = .ok (.aload_n 2, 1) := by decide +kernel
theorem dX6_lookAgain_27 : decode cX6_lookAgain 27 = .ok (.aload_n 1, 1) := by decide +kernel
theorem dX6_lookAgain_28 : decode cX6_lookAgain 28 = .ok (.getfield 28, 3) := by decide +kernel
theorem dX6_lookAgain_31 : decode cX6_lookAgain 31 = .ok (.iload 4, 2) := by decide +kernel
theorem dX6_lookAgain_33 : decode cX6_lookAgain 33 = .ok (.iaload, 1) := by decide +kernel
theorem dX6_lookAgain_34 : decode cX6_lookAgain 34 = .ok (.invokevirtual 31, 3) := by decide +kernel
theorem dX6_lookAgain_37 : decode cX6_lookAgain 37 = .ok (.iinc 4 1, 3) := by decide +kernel
theorem dX6_lookAgain_40 : decode cX6_lookAgain 40 = .ok (.goto (-37), 3) := by decide +kernel
theorem dX6_lookAgain_43 : decode cX6_lookAgain 43 = .ok (.return_, 1) := by decide +kernel
theorem dX6_valueOf_0 : decode cX6_valueOf 0 = .ok (.iload_n 1, 1) := by decide +kernel
theorem dX6_valueOf_1 : decode cX6_valueOf 1 = .ok (.bipush (-9), 2) := by decide +kernel
theorem dX6_valueOf_3 : decode cX6_valueOf 3 = .ok (.if_icmp .ne 8, 3) := by decide +kernel
theorem dX6_valueOf_6 : decode cX6_valueOf 6 = .ok (.ldc 38, 2) := by decide +kernel
theorem dX6_valueOf_8 : decode cX6_valueOf 8 = .ok (.goto 9, 3) := by decide +kernel
theorem dX6_valueOf_11 : decode cX6_valueOf 11 = .ok (.aload_n 0, 1) := by decide +kernel
theorem dX6_valueOf_12 : decode cX6_valueOf 12 = .ok (.getfield 9, 3) := by decide +kernel
theorem dX6_valueOf_15 : decode cX6_valueOf 15 = .ok (.iload_n 1, 1) := by decide +kernel
theorem dX6_valueOf_16 : decode cX6_valueOf 16 = .ok (.iaload, 1) := by decide +kernel
theorem dX6_valueOf_17 : decode cX6_valueOf 17 = .ok (.ireturn, 1) := by decide +kernel
theorem dX6_statusOf_0 : decode cX6_statusOf 0 = .ok (.aload_n 0, 1) := by decide +kernel
theorem dX6_statusOf_1 : decode cX6_statusOf 1 = .ok (.getfield 15, 3) := by decide +kernel
theorem dX6_statusOf_4 : decode cX6_statusOf 4 = .ok (.iload_n 2, 1) := by decide +kernel
theorem dX6_statusOf_5 : decode cX6_statusOf 5 = .ok (.baload, 1) := by decide +kernel
theorem dX6_statusOf_6 : decode cX6_statusOf 6 = .ok (.ifCond .ne 5, 3) := by decide +kernel
theorem dX6_statusOf_9 : decode cX6_statusOf 9 = .ok (.iconst 0, 1) := by decide +kernel
theorem dX6_statusOf_10 : decode cX6_statusOf 10 = .ok (.ireturn, 1) := by decide +kernel
theorem dX6_statusOf_11 : decode cX6_statusOf 11 = .ok (.aload_n 0, 1) := by decide +kernel
theorem dX6_statusOf_12 : decode cX6_statusOf 12 = .ok (.getfield 19, 3) := by decide +kernel
theorem dX6_statusOf_15 : decode cX6_statusOf 15 = .ok (.iload_n 2, 1) := by decide +kernel
theorem dX6_statusOf_16 : decode cX6_statusOf 16 = .ok (.iaload, 1) := by decide +kernel
theorem dX6_statusOf_17 : decode cX6_statusOf 17 = .ok (.ldc 38, 2) := by decide +kernel
theorem dX6_statusOf_19 : decode cX6_statusOf 19 = .ok (.if_icmp .ne 27, 3) := by decide +kernel
theorem dX6_statusOf_22 : decode cX6_statusOf 22 = .ok (.aload_n 0, 1) := by decide +kernel
theorem dX6_statusOf_23 : decode cX6_statusOf 23 = .ok (.aload_n 1, 1) := by decide +kernel
theorem dX6_statusOf_24 : decode cX6_statusOf 24 = .ok (.getfield 39, 3) := by decide +kernel
theorem dX6_statusOf_27 : decode cX6_statusOf 27 = .ok (.iload_n 2, 1) := by decide +kernel
theorem dX6_statusOf_28 : decode cX6_statusOf 28 = .ok (.aaload, 1) := by decide +kernel
theorem dX6_statusOf_29 : decode cX6_statusOf 29 = .ok (.iconst 1, 1) := by decide +kernel
theorem dX6_statusOf_30 : decode cX6_statusOf 30 = .ok (.iaload, 1) := by decide +kernel
theorem dX6_statusOf_31 : decode cX6_statusOf 31 = .ok (.invokevirtual 45, 3) := by decide +kernel
theorem dX6_statusOf_34 : decode cX6_statusOf 34 = .ok (.invokestatic 49, 3) := by decide +kernel
theorem dX6_statusOf_37 : decode cX6_statusOf 37 = .ok (.ifCond .eq 7, 3) := by decide +kernel
theorem dX6_statusOf_40 : decode cX6_statusOf 40 = .ok (.iconst 2, 1) := by decide +kernel
theorem dX6_statusOf_41 : decode cX6_statusOf 41 = .ok (.goto 4, 3) := by decide +kernel
theorem dX6_statusOf_44 : decode cX6_statusOf 44 = .ok (.iconst 1, 1) := by decide +kernel
theorem dX6_statusOf_45 : decode cX6_statusOf 45 = .ok (.ireturn, 1) := by decide +kernel
theorem dX6_statusOf_46 : decode cX6_statusOf 46 = .ok (.aload_n 0, 1) := by decide +kernel
theorem dX6_statusOf_47 : decode cX6_statusOf 47 = .ok (.aload_n 1, 1) := by decide +kernel
theorem dX6_statusOf_48 : decode cX6_statusOf 48 = .ok (.getfield 39, 3) := by decide +kernel
theorem dX6_statusOf_51 : decode cX6_statusOf 51 = .ok (.iload_n 2, 1) := by decide +kernel
theorem dX6_statusOf_52 : decode cX6_statusOf 52 = .ok (.aaload, 1) := by decide +kernel
theorem dX6_statusOf_53 : decode cX6_statusOf 53 = .ok (.iconst 2, 1) := by decide +kernel
theorem dX6_statusOf_54 : decode cX6_statusOf 54 = .ok (.iaload, 1) := by decide +kernel
theorem dX6_statusOf_55 : decode cX6_statusOf 55 = .ok (.invokevirtual 45, 3) := by decide +kernel
theorem dX6_statusOf_58 : decode cX6_statusOf 58 = .ok (.ifCond .ne 7, 3) := by decide +kernel
theorem dX6_statusOf_61 : decode cX6_statusOf 61 = .ok (.iconst 4, 1) := by decide +kernel
theorem dX6_statusOf_62 : decode cX6_statusOf 62 = .ok (.goto 4, 3) := by decide +kernel
theorem dX6_statusOf_65 : decode cX6_statusOf 65 = .ok (.iconst 3, 1) := by decide +kernel
theorem dX6_statusOf_66 : decode cX6_statusOf 66 = .ok (.ireturn, 1) := by decide +kernel
theorem dX6_takeStep_0 : decode cX6_takeStep 0 = .ok (.iload_n 3, 1) := by decide +kernel
theorem dX6_takeStep_1 : decode cX6_takeStep 1 = .ok (.bipush 50, 2) := by decide +kernel
theorem dX6_takeStep_3 : decode cX6_takeStep 3 = .ok (.if_icmp .ge 21, 3) := by decide +kernel
theorem dX6_takeStep_6 : decode cX6_takeStep 6 = .ok (.aload_n 0, 1) := by decide +kernel
theorem dX6_takeStep_7 : decode cX6_takeStep 7 = .ok (.getfield 9, 3) := by decide +kernel
theorem dX6_takeStep_10 : decode cX6_takeStep 10 = .ok (.iload_n 3, 1) := by decide +kernel
theorem dX6_takeStep_11 : decode cX6_takeStep 11 = .ok (.aload_n 0, 1) := by decide +kernel
theorem dX6_takeStep_12 : decode cX6_takeStep 12 = .ok (.aload_n 1, 1) := by decide +kernel
theorem dX6_takeStep_13 : decode cX6_takeStep 13 = .ok (.getfield 53, 3) := by decide +kernel
theorem dX6_takeStep_16 : decode cX6_takeStep 16 = .ok (.iload_n 3, 1) := by decide +kernel
theorem dX6_takeStep_17 : decode cX6_takeStep 17 = .ok (.invokevirtual 57, 3) := by decide +kernel
theorem dX6_takeStep_20 : decode cX6_takeStep 20 = .ok (.iastore, 1) := by decide +kernel
theorem dX6_takeStep_21 : decode cX6_takeStep 21 = .ok (.goto 16, 3) := by decide +kernel
theorem dX6_takeStep_24 : decode cX6_takeStep 24 = .ok (.aload_n 0, 1) := by decide +kernel
theorem dX6_takeStep_25 : decode cX6_takeStep 25 = .ok (.aload_n 1, 1) := by decide +kernel
theorem dX6_takeStep_26 : decode cX6_takeStep 26 = .ok (.getfield 61, 3) := by decide +kernel
theorem dX6_takeStep_29 : decode cX6_takeStep 29 = .ok (.aload_n 2, 1) := by decide +kernel
theorem dX6_takeStep_30 : decode cX6_takeStep 30 = .ok (.iload_n 3, 1) := by decide +kernel
theorem dX6_takeStep_31 : decode cX6_takeStep 31 = .ok (.bipush 50, 2) := by decide +kernel
theorem dX6_takeStep_33 : decode cX6_takeStep 33 = .ok (.isub, 1) := by decide +kernel
theorem dX6_takeStep_34 : decode cX6_takeStep 34 = .ok (.invokevirtual 65, 3) := by decide +kernel
theorem dX6_takeStep_37 : decode cX6_takeStep 37 = .ok (.return_, 1) := by decide +kernel
theorem dX6_takeField_0 : decode cX6_takeField 0 = .ok (.aload_n 1, 1) := by decide +kernel
theorem dX6_takeField_1 : decode cX6_takeField 1 = .ok (.getfield 39, 3) := by decide +kernel
theorem dX6_takeField_4 : decode cX6_takeField 4 = .ok (.iload_n 3, 1) := by decide +kernel
theorem dX6_takeField_5 : decode cX6_takeField 5 = .ok (.aaload, 1) := by decide +kernel
theorem dX6_takeField_6 : decode cX6_takeField 6 = .ok (.iconst 0, 1) := by decide +kernel
theorem dX6_takeField_7 : decode cX6_takeField 7 = .ok (.iaload, 1) := by decide +kernel
theorem dX6_takeField_8 : decode cX6_takeField 8 = .ok (.istore 4, 2) := by decide +kernel
theorem dX6_takeField_10 : decode cX6_takeField 10 = .ok (.aload_n 0, 1) := by decide +kernel
theorem dX6_takeField_11 : decode cX6_takeField 11 = .ok (.getfield 15, 3) := by decide +kernel
theorem dX6_takeField_14 : decode cX6_takeField 14 = .ok (.iload_n 3, 1) := by decide +kernel
theorem dX6_takeField_15 : decode cX6_takeField 15 = .ok (.iload 4, 2) := by decide +kernel
theorem dX6_takeField_17 : decode cX6_takeField 17 = .ok (.bipush (-9), 2) := by decide +kernel
theorem dX6_takeField_19 : decode cX6_takeField 19 = .ok (.if_icmp .eq 16, 3) := by decide +kernel
theorem dX6_takeField_22 : decode cX6_takeField 22 = .ok (.aload_n 0, 1) := by decide +kernel
theorem dX6_takeField_23 : decode cX6_takeField 23 = .ok (.getfield 9, 3) := by decide +kernel
theorem dX6_takeField_26 : decode cX6_takeField 26 = .ok (.iload 4, 2) := by decide +kernel
theorem dX6_takeField_28 : decode cX6_takeField 28 = .ok (.iaload, 1) := by decide +kernel
theorem dX6_takeField_29 : decode cX6_takeField 29 = .ok (.invokestatic 49, 3) := by decide +kernel
theorem dX6_takeField_32 : decode cX6_takeField 32 = .ok (.ifCond .eq 7, 3) := by decide +kernel
theorem dX6_takeField_35 : decode cX6_takeField 35 = .ok (.iconst 1, 1) := by decide +kernel
theorem dX6_takeField_36 : decode cX6_takeField 36 = .ok (.goto 4, 3) := by decide +kernel
theorem dX6_takeField_39 : decode cX6_takeField 39 = .ok (.iconst 0, 1) := by decide +kernel
theorem dX6_takeField_40 : decode cX6_takeField 40 = .ok (.bastore, 1) := by decide +kernel
theorem dX6_takeField_41 : decode cX6_takeField 41 = .ok (.aload_n 1, 1) := by decide +kernel
theorem dX6_takeField_42 : decode cX6_takeField 42 = .ok (.getfield 69, 3) := by decide +kernel
theorem dX6_takeField_45 : decode cX6_takeField 45 = .ok (.iload_n 3, 1) := by decide +kernel
theorem dX6_takeField_46 : decode cX6_takeField 46 = .ok (.baload, 1) := by decide +kernel
theorem dX6_takeField_47 : decode cX6_takeField 47 = .ok (.ifCond .eq 18, 3) := by decide +kernel
theorem dX6_takeField_50 : decode cX6_takeField 50 = .ok (.aload_n 0, 1) := by decide +kernel
theorem dX6_takeField_51 : decode cX6_takeField 51 = .ok (.aload_n 1, 1) := by decide +kernel
theorem dX6_takeField_52 : decode cX6_takeField 52 = .ok (.getfield 39, 3) := by decide +kernel
theorem dX6_takeField_55 : decode cX6_takeField 55 = .ok (.iload_n 3, 1) := by decide +kernel
theorem dX6_takeField_56 : decode cX6_takeField 56 = .ok (.aaload, 1) := by decide +kernel
theorem dX6_takeField_57 : decode cX6_takeField 57 = .ok (.iconst 3, 1) := by decide +kernel
theorem dX6_takeField_58 : decode cX6_takeField 58 = .ok (.iaload, 1) := by decide +kernel
theorem dX6_takeField_59 : decode cX6_takeField 59 = .ok (.invokevirtual 45, 3) := by decide +kernel
theorem dX6_takeField_62 : decode cX6_takeField 62 = .ok (.goto 6, 3) := by decide +kernel
theorem dX6_takeField_65 : decode cX6_takeField 65 = .ok (.aload_n 2, 1) := by decide +kernel
theorem dX6_takeField_66 : decode cX6_takeField 66 = .ok (.iload_n 3, 1) := by decide +kernel
theorem dX6_takeField_67 : decode cX6_takeField 67 = .ok (.iaload, 1) := by decide +kernel
theorem dX6_takeField_68 : decode cX6_takeField 68 = .ok (.istore 5, 2) := by decide +kernel
theorem dX6_takeField_70 : decode cX6_takeField 70 = .ok (.aload_n 0, 1) := by decide +kernel
theorem dX6_takeField_71 : decode cX6_takeField 71 = .ok (.getfield 19, 3) := by decide +kernel
theorem dX6_takeField_74 : decode cX6_takeField 74 = .ok (.iload_n 3, 1) := by decide +kernel
theorem dX6_takeField_75 : decode cX6_takeField 75 = .ok (.aload_n 0, 1) := by decide +kernel
theorem dX6_takeField_76 : decode cX6_takeField 76 = .ok (.getfield 15, 3) := by decide +kernel
theorem dX6_takeField_79 : decode cX6_takeField 79 = .ok (.iload_n 3, 1) := by decide +kernel
theorem dX6_takeField_80 : decode cX6_takeField 80 = .ok (.baload, 1) := by decide +kernel
theorem dX6_takeField_81 : decode cX6_takeField 81 = .ok (.ifCond .eq 18, 3) := by decide +kernel
theorem dX6_takeField_84 : decode cX6_takeField 84 = .ok (.aload_n 1, 1) := by decide +kernel
theorem dX6_takeField_85 : decode cX6_takeField 85 = .ok (.iload_n 3, 1) := by decide +kernel
theorem dX6_takeField_86 : decode cX6_takeField 86 = .ok (.iload 5, 2) := by decide +kernel
theorem dX6_takeField_88 : decode cX6_takeField 88 = .ok (.invokevirtual 72, 3) := by decide +kernel
theorem dX6_takeField_91 : decode cX6_takeField 91 = .ok (.ifCond .eq 8, 3) := by decide +kernel
theorem dX6_takeField_94 : decode cX6_takeField 94 = .ok (.iload 5, 2) := by decide +kernel
theorem dX6_takeField_96 : decode cX6_takeField 96 = .ok (.goto 5, 3) := by decide +kernel
theorem dX6_takeField_99 : decode cX6_takeField 99 = .ok (.ldc 38, 2) := by decide +kernel
theorem dX6_takeField_101 : decode cX6_takeField 101 = .ok (.iastore, 1) := by decide +kernel
theorem dX6_takeField_102 : decode cX6_takeField 102 = .ok (.return_, 1) := by decide +kernel
theorem dX6_workOut_0 : decode cX6_workOut 0 = .ok (.aload_n 1, 1) := by decide +kernel
theorem dX6_workOut_1 : decode cX6_workOut 1 = .ok (.getfield 76, 3) := by decide +kernel
theorem dX6_workOut_4 : decode cX6_workOut 4 = .ok (.iload_n 2, 1) := by decide +kernel
theorem dX6_workOut_5 : decode cX6_workOut 5 = .ok (.iaload, 1) := by decide +kernel
theorem dX6_workOut_6 : decode cX6_workOut 6 = .ok (.istore_n 3, 1) := by decide +kernel
theorem dX6_workOut_7 : decode cX6_workOut 7 = .ok (.aload_n 1, 1) := by decide +kernel
theorem dX6_workOut_8 : decode cX6_workOut 8 = .ok (.getfield 81, 3) := by decide +kernel
theorem dX6_workOut_11 : decode cX6_workOut 11 = .ok (.iload_n 2, 1) := by decide +kernel
theorem dX6_workOut_12 : decode cX6_workOut 12 = .ok (.iaload, 1) := by decide +kernel
theorem dX6_workOut_13 : decode cX6_workOut 13 = .ok (.tableswitch 172 0 11 #[63, 65, 172, 172, 172, 172, 172, 172, 172, 92, 72, 126], 63) := by decide +kernel
theorem dX6_workOut_76 : decode cX6_workOut 76 = .ok (.iload_n 3, 1) := by decide +kernel
theorem dX6_workOut_77 : decode cX6_workOut 77 = .ok (.ireturn, 1) := by decide +kernel
theorem dX6_workOut_78 : decode cX6_workOut 78 = .ok (.aload_n 0, 1) := by decide +kernel
theorem dX6_workOut_79 : decode cX6_workOut 79 = .ok (.getfield 19, 3) := by decide +kernel
theorem dX6_workOut_82 : decode cX6_workOut 82 = .ok (.iload_n 3, 1) := by decide +kernel
theorem dX6_workOut_83 : decode cX6_workOut 83 = .ok (.iaload, 1) := by decide +kernel
theorem dX6_workOut_84 : decode cX6_workOut 84 = .ok (.ireturn, 1) := by decide +kernel
theorem dX6_workOut_85 : decode cX6_workOut 85 = .ok (.aload_n 0, 1) := by decide +kernel
theorem dX6_workOut_86 : decode cX6_workOut 86 = .ok (.getfield 19, 3) := by decide +kernel
theorem dX6_workOut_89 : decode cX6_workOut 89 = .ok (.iload_n 3, 1) := by decide +kernel
theorem dX6_workOut_90 : decode cX6_workOut 90 = .ok (.iaload, 1) := by decide +kernel
theorem dX6_workOut_91 : decode cX6_workOut 91 = .ok (.ldc 38, 2) := by decide +kernel
theorem dX6_workOut_93 : decode cX6_workOut 93 = .ok (.if_icmp .eq 7, 3) := by decide +kernel
theorem dX6_workOut_96 : decode cX6_workOut 96 = .ok (.iconst 1, 1) := by decide +kernel
theorem dX6_workOut_97 : decode cX6_workOut 97 = .ok (.goto 4, 3) := by decide +kernel
theorem dX6_workOut_100 : decode cX6_workOut 100 = .ok (.iconst 0, 1) := by decide +kernel
theorem dX6_workOut_101 : decode cX6_workOut 101 = .ok (.invokestatic 84, 3) := by decide +kernel
theorem dX6_workOut_104 : decode cX6_workOut 104 = .ok (.ireturn, 1) := by decide +kernel
theorem dX6_workOut_105 : decode cX6_workOut 105 = .ok (.aload_n 0, 1) := by decide +kernel
theorem dX6_workOut_106 : decode cX6_workOut 106 = .ok (.getfield 9, 3) := by decide +kernel
theorem dX6_workOut_109 : decode cX6_workOut 109 = .ok (.iload_n 3, 1) := by decide +kernel
theorem dX6_workOut_110 : decode cX6_workOut 110 = .ok (.iaload, 1) := by decide +kernel
theorem dX6_workOut_111 : decode cX6_workOut 111 = .ok (.ldc 38, 2) := by decide +kernel
theorem dX6_workOut_113 : decode cX6_workOut 113 = .ok (.if_icmp .ne 8, 3) := by decide +kernel
theorem dX6_workOut_116 : decode cX6_workOut 116 = .ok (.ldc 38, 2) := by decide +kernel
theorem dX6_workOut_118 : decode cX6_workOut 118 = .ok (.goto 20, 3) := by decide +kernel
theorem dX6_workOut_121 : decode cX6_workOut 121 = .ok (.aload_n 0, 1) := by decide +kernel
theorem dX6_workOut_122 : decode cX6_workOut 122 = .ok (.getfield 9, 3) := by decide +kernel
theorem dX6_workOut_125 : decode cX6_workOut 125 = .ok (.iload_n 3, 1) := by decide +kernel
theorem dX6_workOut_126 : decode cX6_workOut 126 = .ok (.iaload, 1) := by decide +kernel
theorem dX6_workOut_127 : decode cX6_workOut 127 = .ok (.ifCond .ne 7, 3) := by decide +kernel
theorem dX6_workOut_130 : decode cX6_workOut 130 = .ok (.iconst 1, 1) := by decide +kernel
theorem dX6_workOut_131 : decode cX6_workOut 131 = .ok (.goto 4, 3) := by decide +kernel
theorem dX6_workOut_134 : decode cX6_workOut 134 = .ok (.iconst 0, 1) := by decide +kernel
theorem dX6_workOut_135 : decode cX6_workOut 135 = .ok (.invokestatic 84, 3) := by decide +kernel
theorem dX6_workOut_138 : decode cX6_workOut 138 = .ok (.ireturn, 1) := by decide +kernel
theorem dX6_workOut_139 : decode cX6_workOut 139 = .ok (.aload_n 0, 1) := by decide +kernel
theorem dX6_workOut_140 : decode cX6_workOut 140 = .ok (.getfield 9, 3) := by decide +kernel
theorem dX6_workOut_143 : decode cX6_workOut 143 = .ok (.iload_n 3, 1) := by decide +kernel
theorem dX6_workOut_144 : decode cX6_workOut 144 = .ok (.iaload, 1) := by decide +kernel
theorem dX6_workOut_145 : decode cX6_workOut 145 = .ok (.ldc 38, 2) := by decide +kernel
theorem dX6_workOut_147 : decode cX6_workOut 147 = .ok (.if_icmp .ne 8, 3) := by decide +kernel
theorem dX6_workOut_150 : decode cX6_workOut 150 = .ok (.ldc 38, 2) := by decide +kernel
theorem dX6_workOut_152 : decode cX6_workOut 152 = .ok (.goto 32, 3) := by decide +kernel
theorem dX6_workOut_155 : decode cX6_workOut 155 = .ok (.aload_n 0, 1) := by decide +kernel
theorem dX6_workOut_156 : decode cX6_workOut 156 = .ok (.getfield 9, 3) := by decide +kernel
theorem dX6_workOut_159 : decode cX6_workOut 159 = .ok (.aload_n 0, 1) := by decide +kernel
theorem dX6_workOut_160 : decode cX6_workOut 160 = .ok (.getfield 9, 3) := by decide +kernel
theorem dX6_workOut_163 : decode cX6_workOut 163 = .ok (.iload_n 3, 1) := by decide +kernel
theorem dX6_workOut_164 : decode cX6_workOut 164 = .ok (.iaload, 1) := by decide +kernel
theorem dX6_workOut_165 : decode cX6_workOut 165 = .ok (.ifCond .eq 12, 3) := by decide +kernel
theorem dX6_workOut_168 : decode cX6_workOut 168 = .ok (.aload_n 1, 1) := by decide +kernel
theorem dX6_workOut_169 : decode cX6_workOut 169 = .ok (.getfield 88, 3) := by decide +kernel
theorem dX6_workOut_172 : decode cX6_workOut 172 = .ok (.iload_n 2, 1) := by decide +kernel
theorem dX6_workOut_173 : decode cX6_workOut 173 = .ok (.iaload, 1) := by decide +kernel
theorem dX6_workOut_174 : decode cX6_workOut 174 = .ok (.goto 9, 3) := by decide +kernel
theorem dX6_workOut_177 : decode cX6_workOut 177 = .ok (.aload_n 1, 1) := by decide +kernel
theorem dX6_workOut_178 : decode cX6_workOut 178 = .ok (.getfield 91, 3) := by decide +kernel
theorem dX6_workOut_181 : decode cX6_workOut 181 = .ok (.iload_n 2, 1) := by decide +kernel
theorem dX6_workOut_182 : decode cX6_workOut 182 = .ok (.iaload, 1) := by decide +kernel
theorem dX6_workOut_183 : decode cX6_workOut 183 = .ok (.iaload, 1) := by decide +kernel
theorem dX6_workOut_184 : decode cX6_workOut 184 = .ok (.ireturn, 1) := by decide +kernel
theorem dX6_workOut_185 : decode cX6_workOut 185 = .ok (.aload_n 1, 1) := by decide +kernel
theorem dX6_workOut_186 : decode cX6_workOut 186 = .ok (.getfield 81, 3) := by decide +kernel
theorem dX6_workOut_189 : decode cX6_workOut 189 = .ok (.iload_n 2, 1) := by decide +kernel
theorem dX6_workOut_190 : decode cX6_workOut 190 = .ok (.iaload, 1) := by decide +kernel
theorem dX6_workOut_191 : decode cX6_workOut 191 = .ok (.aload_n 0, 1) := by decide +kernel
theorem dX6_workOut_192 : decode cX6_workOut 192 = .ok (.getfield 9, 3) := by decide +kernel
theorem dX6_workOut_195 : decode cX6_workOut 195 = .ok (.iload_n 3, 1) := by decide +kernel
theorem dX6_workOut_196 : decode cX6_workOut 196 = .ok (.iaload, 1) := by decide +kernel
theorem dX6_workOut_197 : decode cX6_workOut 197 = .ok (.aload_n 0, 1) := by decide +kernel
theorem dX6_workOut_198 : decode cX6_workOut 198 = .ok (.getfield 9, 3) := by decide +kernel
theorem dX6_workOut_201 : decode cX6_workOut 201 = .ok (.aload_n 1, 1) := by decide +kernel
theorem dX6_workOut_202 : decode cX6_workOut 202 = .ok (.getfield 88, 3) := by decide +kernel
theorem dX6_workOut_205 : decode cX6_workOut 205 = .ok (.iload_n 2, 1) := by decide +kernel
theorem dX6_workOut_206 : decode cX6_workOut 206 = .ok (.iaload, 1) := by decide +kernel
theorem dX6_workOut_207 : decode cX6_workOut 207 = .ok (.iaload, 1) := by decide +kernel
theorem dX6_workOut_208 : decode cX6_workOut 208 = .ok (.invokestatic 94, 3) := by decide +kernel
theorem dX6_workOut_211 : decode cX6_workOut 211 = .ok (.ireturn, 1) := by decide +kernel
theorem dX6_workOutPair_0 : decode cX6_workOutPair 0 = .ok (.iload_n 0, 1) := by decide +kernel
theorem dX6_workOutPair_1 : decode cX6_workOutPair 1 = .ok (.bipush 7, 2) := by decide +kernel
theorem dX6_workOutPair_3 : decode cX6_workOutPair 3 = .ok (.if_icmp .ne 13, 3) := by decide +kernel
theorem dX6_workOutPair_6 : decode cX6_workOutPair 6 = .ok (.iload_n 1, 1) := by decide +kernel
theorem dX6_workOutPair_7 : decode cX6_workOutPair 7 = .ok (.ifCond .eq 7, 3) := by decide +kernel
theorem dX6_workOutPair_10 : decode cX6_workOutPair 10 = .ok (.iload_n 2, 1) := by decide +kernel
theorem dX6_workOutPair_11 : decode cX6_workOutPair 11 = .ok (.ifCond .ne 5, 3) := by decide +kernel
theorem dX6_workOutPair_14 : decode cX6_workOutPair 14 = .ok (.iconst 0, 1) := by decide +kernel
theorem dX6_workOutPair_15 : decode cX6_workOutPair 15 = .ok (.ireturn, 1) := by decide +kernel
theorem dX6_workOutPair_16 : decode cX6_workOutPair 16 = .ok (.iload_n 0, 1) := by decide +kernel
theorem dX6_workOutPair_17 : decode cX6_workOutPair 17 = .ok (.bipush 8, 2) := by decide +kernel
theorem dX6_workOutPair_19 : decode cX6_workOutPair 19 = .ok (.if_icmp .ne 19, 3) := by decide +kernel
theorem dX6_workOutPair_22 : decode cX6_workOutPair 22 = .ok (.iload_n 1, 1) := by decide +kernel
theorem dX6_workOutPair_23 : decode cX6_workOutPair 23 = .ok (.invokestatic 49, 3) := by decide +kernel
theorem dX6_workOutPair_26 : decode cX6_workOutPair 26 = .ok (.ifCond .ne 10, 3) := by decide +kernel
theorem dX6_workOutPair_29 : decode cX6_workOutPair 29 = .ok (.iload_n 2, 1) := by decide +kernel
theorem dX6_workOutPair_30 : decode cX6_workOutPair 30 = .ok (.invokestatic 49, 3) := by decide +kernel
theorem dX6_workOutPair_33 : decode cX6_workOutPair 33 = .ok (.ifCond .eq 5, 3) := by decide +kernel
theorem dX6_workOutPair_36 : decode cX6_workOutPair 36 = .ok (.iconst 1, 1) := by decide +kernel
theorem dX6_workOutPair_37 : decode cX6_workOutPair 37 = .ok (.ireturn, 1) := by decide +kernel
theorem dX6_workOutPair_38 : decode cX6_workOutPair 38 = .ok (.iload_n 1, 1) := by decide +kernel
theorem dX6_workOutPair_39 : decode cX6_workOutPair 39 = .ok (.ldc 38, 2) := by decide +kernel
theorem dX6_workOutPair_41 : decode cX6_workOutPair 41 = .ok (.if_icmp .eq 9, 3) := by decide +kernel
theorem dX6_workOutPair_44 : decode cX6_workOutPair 44 = .ok (.iload_n 2, 1) := by decide +kernel
theorem dX6_workOutPair_45 : decode cX6_workOutPair 45 = .ok (.ldc 38, 2) := by decide +kernel
theorem dX6_workOutPair_47 : decode cX6_workOutPair 47 = .ok (.if_icmp .ne 6, 3) := by decide +kernel
theorem dX6_workOutPair_50 : decode cX6_workOutPair 50 = .ok (.ldc 38, 2) := by decide +kernel
theorem dX6_workOutPair_52 : decode cX6_workOutPair 52 = .ok (.ireturn, 1) := by decide +kernel
theorem dX6_workOutPair_53 : decode cX6_workOutPair 53 = .ok (.iload_n 0, 1) := by decide +kernel
theorem dX6_workOutPair_54 : decode cX6_workOutPair 54 = .ok (.tableswitch 89 2 6 #[34, 43, 52, 61, 75], 34) := by decide +kernel
theorem dX6_workOutPair_88 : decode cX6_workOutPair 88 = .ok (.iload_n 1, 1) := by decide +kernel
theorem dX6_workOutPair_89 : decode cX6_workOutPair 89 = .ok (.i2l, 1) := by decide +kernel
theorem dX6_workOutPair_90 : decode cX6_workOutPair 90 = .ok (.iload_n 2, 1) := by decide +kernel
theorem dX6_workOutPair_91 : decode cX6_workOutPair 91 = .ok (.i2l, 1) := by decide +kernel
theorem dX6_workOutPair_92 : decode cX6_workOutPair 92 = .ok (.ladd, 1) := by decide +kernel
theorem dX6_workOutPair_93 : decode cX6_workOutPair 93 = .ok (.invokestatic 98, 3) := by decide +kernel
theorem dX6_workOutPair_96 : decode cX6_workOutPair 96 = .ok (.ireturn, 1) := by decide +kernel
theorem dX6_workOutPair_97 : decode cX6_workOutPair 97 = .ok (.iload_n 1, 1) := by decide +kernel
theorem dX6_workOutPair_98 : decode cX6_workOutPair 98 = .ok (.i2l, 1) := by decide +kernel
theorem dX6_workOutPair_99 : decode cX6_workOutPair 99 = .ok (.iload_n 2, 1) := by decide +kernel
theorem dX6_workOutPair_100 : decode cX6_workOutPair 100 = .ok (.i2l, 1) := by decide +kernel
theorem dX6_workOutPair_101 : decode cX6_workOutPair 101 = .ok (.lsub, 1) := by decide +kernel
theorem dX6_workOutPair_102 : decode cX6_workOutPair 102 = .ok (.invokestatic 98, 3) := by decide +kernel
theorem dX6_workOutPair_105 : decode cX6_workOutPair 105 = .ok (.ireturn, 1) := by decide +kernel
theorem dX6_workOutPair_106 : decode cX6_workOutPair 106 = .ok (.iload_n 1, 1) := by decide +kernel
theorem dX6_workOutPair_107 : decode cX6_workOutPair 107 = .ok (.i2l, 1) := by decide +kernel
theorem dX6_workOutPair_108 : decode cX6_workOutPair 108 = .ok (.iload_n 2, 1) := by decide +kernel
theorem dX6_workOutPair_109 : decode cX6_workOutPair 109 = .ok (.i2l, 1) := by decide +kernel
theorem dX6_workOutPair_110 : decode cX6_workOutPair 110 = .ok (.lmul, 1) := by decide +kernel
theorem dX6_workOutPair_111 : decode cX6_workOutPair 111 = .ok (.invokestatic 98, 3) := by decide +kernel
theorem dX6_workOutPair_114 : decode cX6_workOutPair 114 = .ok (.ireturn, 1) := by decide +kernel
theorem dX6_workOutPair_115 : decode cX6_workOutPair 115 = .ok (.iload_n 1, 1) := by decide +kernel
theorem dX6_workOutPair_116 : decode cX6_workOutPair 116 = .ok (.iload_n 2, 1) := by decide +kernel
theorem dX6_workOutPair_117 : decode cX6_workOutPair 117 = .ok (.if_icmp .ne 7, 3) := by decide +kernel
theorem dX6_workOutPair_120 : decode cX6_workOutPair 120 = .ok (.iconst 1, 1) := by decide +kernel
theorem dX6_workOutPair_121 : decode cX6_workOutPair 121 = .ok (.goto 4, 3) := by decide +kernel
theorem dX6_workOutPair_124 : decode cX6_workOutPair 124 = .ok (.iconst 0, 1) := by decide +kernel
theorem dX6_workOutPair_125 : decode cX6_workOutPair 125 = .ok (.invokestatic 84, 3) := by decide +kernel
theorem dX6_workOutPair_128 : decode cX6_workOutPair 128 = .ok (.ireturn, 1) := by decide +kernel
theorem dX6_workOutPair_129 : decode cX6_workOutPair 129 = .ok (.iload_n 1, 1) := by decide +kernel
theorem dX6_workOutPair_130 : decode cX6_workOutPair 130 = .ok (.iload_n 2, 1) := by decide +kernel
theorem dX6_workOutPair_131 : decode cX6_workOutPair 131 = .ok (.if_icmp .ge 7, 3) := by decide +kernel
theorem dX6_workOutPair_134 : decode cX6_workOutPair 134 = .ok (.iconst 1, 1) := by decide +kernel
theorem dX6_workOutPair_135 : decode cX6_workOutPair 135 = .ok (.goto 4, 3) := by decide +kernel
theorem dX6_workOutPair_138 : decode cX6_workOutPair 138 = .ok (.iconst 0, 1) := by decide +kernel
theorem dX6_workOutPair_139 : decode cX6_workOutPair 139 = .ok (.invokestatic 84, 3) := by decide +kernel
theorem dX6_workOutPair_142 : decode cX6_workOutPair 142 = .ok (.ireturn, 1) := by decide +kernel
theorem dX6_workOutPair_143 : decode cX6_workOutPair 143 = .ok (.iload_n 0, 1) := by decide +kernel
theorem dX6_workOutPair_144 : decode cX6_workOutPair 144 = .ok (.bipush 7, 2) := by decide +kernel
theorem dX6_workOutPair_146 : decode cX6_workOutPair 146 = .ok (.if_icmp .ne 7, 3) := by decide +kernel
theorem dX6_workOutPair_149 : decode cX6_workOutPair 149 = .ok (.iconst 1, 1) := by decide +kernel
theorem dX6_workOutPair_150 : decode cX6_workOutPair 150 = .ok (.goto 4, 3) := by decide +kernel
theorem dX6_workOutPair_153 : decode cX6_workOutPair 153 = .ok (.iconst 0, 1) := by decide +kernel
theorem dX6_workOutPair_154 : decode cX6_workOutPair 154 = .ok (.invokestatic 84, 3) := by decide +kernel
theorem dX6_workOutPair_157 : decode cX6_workOutPair 157 = .ok (.ireturn, 1) := by decide +kernel
theorem dX6_cut_0 : decode cX6_cut 0 = .ok (.lload_n 0, 1) := by decide +kernel
theorem dX6_cut_1 : decode cX6_cut 1 = .ok (.ldc2_w 102, 3) := by decide +kernel
theorem dX6_cut_4 : decode cX6_cut 4 = .ok (.lcmp, 1) := by decide +kernel
theorem dX6_cut_5 : decode cX6_cut 5 = .ok (.ifCond .le 6, 3) := by decide +kernel
theorem dX6_cut_8 : decode cX6_cut 8 = .ok (.ldc 104, 2) := by decide +kernel
theorem dX6_cut_10 : decode cX6_cut 10 = .ok (.ireturn, 1) := by decide +kernel
theorem dX6_cut_11 : decode cX6_cut 11 = .ok (.lload_n 0, 1) := by decide +kernel
theorem dX6_cut_12 : decode cX6_cut 12 = .ok (.ldc2_w 105, 3) := by decide +kernel
theorem dX6_cut_15 : decode cX6_cut 15 = .ok (.lcmp, 1) := by decide +kernel
theorem dX6_cut_16 : decode cX6_cut 16 = .ok (.ifCond .ge 8, 3) := by decide +kernel
theorem dX6_cut_19 : decode cX6_cut 19 = .ok (.ldc 107, 2) := by decide +kernel
theorem dX6_cut_21 : decode cX6_cut 21 = .ok (.goto 5, 3) := by decide +kernel
theorem dX6_cut_24 : decode cX6_cut 24 = .ok (.lload_n 0, 1) := by decide +kernel
theorem dX6_cut_25 : decode cX6_cut 25 = .ok (.l2i, 1) := by decide +kernel
theorem dX6_cut_26 : decode cX6_cut 26 = .ok (.ireturn, 1) := by decide +kernel
theorem dJ6_bitCount_0f7a4_0 : decode cJ6_bitCount_0f7a4 0 = .ok (.iload_n 0, 1) := by decide +kernel
theorem dJ6_bitCount_0f7a4_1 : decode cJ6_bitCount_0f7a4 1 = .ok (.iload_n 0, 1) := by decide +kernel
theorem dJ6_bitCount_0f7a4_2 : decode cJ6_bitCount_0f7a4 2 = .ok (.iconst 1, 1) := by decide +kernel
theorem dJ6_bitCount_0f7a4_3 : decode cJ6_bitCount_0f7a4 3 = .ok (.iushr, 1) := by decide +kernel
theorem dJ6_bitCount_0f7a4_4 : decode cJ6_bitCount_0f7a4 4 = .ok (.ldc_w 265, 3) := by decide +kernel
theorem dJ6_bitCount_0f7a4_7 : decode cJ6_bitCount_0f7a4 7 = .ok (.iand, 1) := by decide +kernel
theorem dJ6_bitCount_0f7a4_8 : decode cJ6_bitCount_0f7a4 8 = .ok (.isub, 1) := by decide +kernel
theorem dJ6_bitCount_0f7a4_9 : decode cJ6_bitCount_0f7a4 9 = .ok (.istore_n 0, 1) := by decide +kernel
theorem dJ6_bitCount_0f7a4_10 : decode cJ6_bitCount_0f7a4 10 = .ok (.iload_n 0, 1) := by decide +kernel
theorem dJ6_bitCount_0f7a4_11 : decode cJ6_bitCount_0f7a4 11 = .ok (.ldc_w 266, 3) := by decide +kernel
theorem dJ6_bitCount_0f7a4_14 : decode cJ6_bitCount_0f7a4 14 = .ok (.iand, 1) := by decide +kernel
theorem dJ6_bitCount_0f7a4_15 : decode cJ6_bitCount_0f7a4 15 = .ok (.iload_n 0, 1) := by decide +kernel
theorem dJ6_bitCount_0f7a4_16 : decode cJ6_bitCount_0f7a4 16 = .ok (.iconst 2, 1) := by decide +kernel
theorem dJ6_bitCount_0f7a4_17 : decode cJ6_bitCount_0f7a4 17 = .ok (.iushr, 1) := by decide +kernel
theorem dJ6_bitCount_0f7a4_18 : decode cJ6_bitCount_0f7a4 18 = .ok (.ldc_w 266, 3) := by decide +kernel
theorem dJ6_bitCount_0f7a4_21 : decode cJ6_bitCount_0f7a4 21 = .ok (.iand, 1) := by decide +kernel
theorem dJ6_bitCount_0f7a4_22 : decode cJ6_bitCount_0f7a4 22 = .ok (.iadd, 1) := by decide +kernel
theorem dJ6_bitCount_0f7a4_23 : decode cJ6_bitCount_0f7a4 23 = .ok (.istore_n 0, 1) := by decide +kernel
theorem dJ6_bitCount_0f7a4_24 : decode cJ6_bitCount_0f7a4 24 = .ok (.iload_n 0, 1) := by decide +kernel
theorem dJ6_bitCount_0f7a4_25 : decode cJ6_bitCount_0f7a4 25 = .ok (.iload_n 0, 1) := by decide +kernel
theorem dJ6_bitCount_0f7a4_26 : decode cJ6_bitCount_0f7a4 26 = .ok (.iconst 4, 1) := by decide +kernel
theorem dJ6_bitCount_0f7a4_27 : decode cJ6_bitCount_0f7a4 27 = .ok (.iushr, 1) := by decide +kernel
theorem dJ6_bitCount_0f7a4_28 : decode cJ6_bitCount_0f7a4 28 = .ok (.iadd, 1) := by decide +kernel
theorem dJ6_bitCount_0f7a4_29 : decode cJ6_bitCount_0f7a4 29 = .ok (.ldc_w 267, 3) := by decide +kernel
theorem dJ6_bitCount_0f7a4_32 : decode cJ6_bitCount_0f7a4 32 = .ok (.iand, 1) := by decide +kernel
theorem dJ6_bitCount_0f7a4_33 : decode cJ6_bitCount_0f7a4 33 = .ok (.istore_n 0, 1) := by decide +kernel
theorem dJ6_bitCount_0f7a4_34 : decode cJ6_bitCount_0f7a4 34 = .ok (.iload_n 0, 1) := by decide +kernel
theorem dJ6_bitCount_0f7a4_35 : decode cJ6_bitCount_0f7a4 35 = .ok (.iload_n 0, 1) := by decide +kernel
theorem dJ6_bitCount_0f7a4_36 : decode cJ6_bitCount_0f7a4 36 = .ok (.bipush 8, 2) := by decide +kernel
theorem dJ6_bitCount_0f7a4_38 : decode cJ6_bitCount_0f7a4 38 = .ok (.iushr, 1) := by decide +kernel
theorem dJ6_bitCount_0f7a4_39 : decode cJ6_bitCount_0f7a4 39 = .ok (.iadd, 1) := by decide +kernel
theorem dJ6_bitCount_0f7a4_40 : decode cJ6_bitCount_0f7a4 40 = .ok (.istore_n 0, 1) := by decide +kernel
theorem dJ6_bitCount_0f7a4_41 : decode cJ6_bitCount_0f7a4 41 = .ok (.iload_n 0, 1) := by decide +kernel
theorem dJ6_bitCount_0f7a4_42 : decode cJ6_bitCount_0f7a4 42 = .ok (.iload_n 0, 1) := by decide +kernel
theorem dJ6_bitCount_0f7a4_43 : decode cJ6_bitCount_0f7a4 43 = .ok (.bipush 16, 2) := by decide +kernel
theorem dJ6_bitCount_0f7a4_45 : decode cJ6_bitCount_0f7a4 45 = .ok (.iushr, 1) := by decide +kernel
theorem dJ6_bitCount_0f7a4_46 : decode cJ6_bitCount_0f7a4 46 = .ok (.iadd, 1) := by decide +kernel
theorem dJ6_bitCount_0f7a4_47 : decode cJ6_bitCount_0f7a4 47 = .ok (.istore_n 0, 1) := by decide +kernel
theorem dJ6_bitCount_0f7a4_48 : decode cJ6_bitCount_0f7a4 48 = .ok (.iload_n 0, 1) := by decide +kernel
theorem dJ6_bitCount_0f7a4_49 : decode cJ6_bitCount_0f7a4 49 = .ok (.bipush 63, 2) := by decide +kernel
theorem dJ6_bitCount_0f7a4_51 : decode cJ6_bitCount_0f7a4 51 = .ok (.iand, 1) := by decide +kernel
theorem dJ6_bitCount_0f7a4_52 : decode cJ6_bitCount_0f7a4 52 = .ok (.ireturn, 1) := by decide +kernel
theorem dJ7_fill_53178_0 : decode cJ7_fill_53178 0 = .ok (.iconst 0, 1) := by decide +kernel
theorem dJ7_fill_53178_1 : decode cJ7_fill_53178 1 = .ok (.istore_n 2, 1) := by decide +kernel
theorem dJ7_fill_53178_2 : decode cJ7_fill_53178 2 = .ok (.aload_n 0, 1) := by decide +kernel
theorem dJ7_fill_53178_3 : decode cJ7_fill_53178 3 = .ok (.arraylength, 1) := by decide +kernel
theorem dJ7_fill_53178_4 : decode cJ7_fill_53178 4 = .ok (.istore_n 3, 1) := by decide +kernel
theorem dJ7_fill_53178_5 : decode cJ7_fill_53178 5 = .ok (.iload_n 2, 1) := by decide +kernel
theorem dJ7_fill_53178_6 : decode cJ7_fill_53178 6 = .ok (.iload_n 3, 1) := by decide +kernel
theorem dJ7_fill_53178_7 : decode cJ7_fill_53178 7 = .ok (.if_icmp .ge 13, 3) := by decide +kernel
theorem dJ7_fill_53178_10 : decode cJ7_fill_53178 10 = .ok (.aload_n 0, 1) := by decide +kernel
theorem dJ7_fill_53178_11 : decode cJ7_fill_53178 11 = .ok (.iload_n 2, 1) := by decide +kernel
theorem dJ7_fill_53178_12 : decode cJ7_fill_53178 12 = .ok (.iload_n 1, 1) := by decide +kernel
theorem dJ7_fill_53178_13 : decode cJ7_fill_53178 13 = .ok (.iastore, 1) := by decide +kernel
theorem dJ7_fill_53178_14 : decode cJ7_fill_53178 14 = .ok (.iinc 2 1, 3) := by decide +kernel
theorem dJ7_fill_53178_17 : decode cJ7_fill_53178 17 = .ok (.goto (-12), 3) := by decide +kernel
theorem dJ7_fill_53178_20 : decode cJ7_fill_53178 20 = .ok (.return_, 1) := by decide +kernel
end
section
theorem dX7_init_0 : decode cX7_init 0 = .ok (.aload_n 0, 1) := by decide +kernel
theorem dX7_init_1 : decode cX7_init 1 = .ok (.invokespecial 3, 3) := by decide +kernel
theorem dX7_init_4 : decode cX7_init 4 = .ok (.return_, 1) := by decide +kernel
theorem dX7_tellOne_0 : decode cX7_tellOne 0 = .ok (.aload_n 1, 1) := by decide +kernel
theorem dX7_tellOne_1 : decode cX7_tellOne 1 = .ok (.getfield 9, 3) := by decide +kernel
theorem dX7_tellOne_4 : decode cX7_tellOne 4 = .ok (.iload_n 2, 1) := by decide +kernel
theorem dX7_tellOne_5 : decode cX7_tellOne 5 = .ok (.aaload, 1) := by decide +kernel
theorem dX7_tellOne_6 : decode cX7_tellOne 6 = .ok (.iconst 1, 1) := by decide +kernel
theorem dX7_tellOne_7 : decode cX7_tellOne 7 = .ok (.iaload, 1) := by decide +kernel
theorem dX7_tellOne_8 : decode cX7_tellOne 8 = .ok (.bipush (-9), 2) := by decide +kernel
theorem dX7_tellOne_10 : decode cX7_tellOne 10 = .ok (.if_icmp .ne 12, 3) := by decide +kernel
theorem dX7_tellOne_13 : decode cX7_tellOne 13 = .ok (.aload_n 0, 1) := by decide +kernel
theorem dX7_tellOne_14 : decode cX7_tellOne 14 = .ok (.aload_n 1, 1) := by decide +kernel
theorem dX7_tellOne_15 : decode cX7_tellOne 15 = .ok (.iload_n 2, 1) := by decide +kernel
theorem dX7_tellOne_16 : decode cX7_tellOne 16 = .ok (.invokevirtual 15, 3) := by decide +kernel
theorem dX7_tellOne_19 : decode cX7_tellOne 19 = .ok (.goto 9, 3) := by decide +kernel
theorem dX7_tellOne_22 : decode cX7_tellOne 22 = .ok (.aload_n 0, 1) := by decide +kernel
theorem dX7_tellOne_23 : decode cX7_tellOne 23 = .ok (.aload_n 1, 1) := by decide +kernel
theorem dX7_tellOne_24 : decode cX7_tellOne 24 = .ok (.iload_n 2, 1) := by decide +kernel
theorem dX7_tellOne_25 : decode cX7_tellOne 25 = .ok (.invokevirtual 21, 3) := by decide +kernel
theorem dX7_tellOne_28 : decode cX7_tellOne 28 = .ok (.ireturn, 1) := by decide +kernel
theorem dX7_addressOne_0 : decode cX7_addressOne 0 = .ok (.aload_n 1, 1) := by decide +kernel
theorem dX7_addressOne_1 : decode cX7_addressOne 1 = .ok (.getfield 24, 3) := by decide +kernel
theorem dX7_addressOne_4 : decode cX7_addressOne 4 = .ok (.iload_n 2, 1) := by decide +kernel
theorem dX7_addressOne_5 : decode cX7_addressOne 5 = .ok (.baload, 1) := by decide +kernel
theorem dX7_addressOne_6 : decode cX7_addressOne 6 = .ok (.ifCond .eq 10, 3) := by decide +kernel
theorem dX7_addressOne_9 : decode cX7_addressOne 9 = .ok (.aload_n 0, 1) := by decide +kernel
theorem dX7_addressOne_10 : decode cX7_addressOne 10 = .ok (.invokevirtual 28, 3) := by decide +kernel
theorem dX7_addressOne_13 : decode cX7_addressOne 13 = .ok (.goto 8, 3) := by decide +kernel
theorem dX7_addressOne_16 : decode cX7_addressOne 16 = .ok (.aload_n 0, 1) := by decide +kernel
theorem dX7_addressOne_17 : decode cX7_addressOne 17 = .ok (.iload_n 2, 1) := by decide +kernel
theorem dX7_addressOne_18 : decode cX7_addressOne 18 = .ok (.invokevirtual 32, 3) := by decide +kernel
theorem dX7_addressOne_21 : decode cX7_addressOne 21 = .ok (.ireturn, 1) := by decide +kernel
theorem dX7_leave_0 : decode cX7_leave 0 = .ok (.aload_n 0, 1) := by decide +kernel
theorem dX7_leave_1 : decode cX7_leave 1 = .ok (.bipush 31, 2) := by decide +kernel
theorem dX7_leave_3 : decode cX7_leave 3 = .ok (.aload_n 0, 1) := by decide +kernel
theorem dX7_leave_4 : decode cX7_leave 4 = .ok (.getfield 36, 3) := by decide +kernel
theorem dX7_leave_7 : decode cX7_leave 7 = .ok (.imul, 1) := by decide +kernel
theorem dX7_leave_8 : decode cX7_leave 8 = .ok (.iload_n 1, 1) := by decide +kernel
theorem dX7_leave_9 : decode cX7_leave 9 = .ok (.iadd, 1) := by decide +kernel
theorem dX7_leave_10 : decode cX7_leave 10 = .ok (.putfield 36, 3) := by decide +kernel
theorem dX7_leave_13 : decode cX7_leave 13 = .ok (.return_, 1) := by decide +kernel
theorem dX7_tellPlain_0 : decode cX7_tellPlain 0 = .ok (.aload_n 1, 1) := by decide +kernel
theorem dX7_tellPlain_1 : decode cX7_tellPlain 1 = .ok (.getfield 24, 3) := by decide +kernel
theorem dX7_tellPlain_4 : decode cX7_tellPlain 4 = .ok (.iload_n 2, 1) := by decide +kernel
theorem dX7_tellPlain_5 : decode cX7_tellPlain 5 = .ok (.baload, 1) := by decide +kernel
theorem dX7_tellPlain_6 : decode cX7_tellPlain 6 = .ok (.ifCond .eq 12, 3) := by decide +kernel
theorem dX7_tellPlain_9 : decode cX7_tellPlain 9 = .ok (.aload_n 0, 1) := by decide +kernel
theorem dX7_tellPlain_10 : decode cX7_tellPlain 10 = .ok (.aload_n 1, 1) := by decide +kernel
theorem dX7_tellPlain_11 : decode cX7_tellPlain 11 = .ok (.iload_n 2, 1) := by decide +kernel
theorem dX7_tellPlain_12 : decode cX7_tellPlain 12 = .ok (.invokevirtual 40, 3) := by decide +kernel
theorem dX7_tellPlain_15 : decode cX7_tellPlain 15 = .ok (.goto 9, 3) := by decide +kernel
theorem dX7_tellPlain_18 : decode cX7_tellPlain 18 = .ok (.aload_n 0, 1) := by decide +kernel
theorem dX7_tellPlain_19 : decode cX7_tellPlain 19 = .ok (.aload_n 1, 1) := by decide +kernel
theorem dX7_tellPlain_20 : decode cX7_tellPlain 20 = .ok (.iload_n 2, 1) := by decide +kernel
theorem dX7_tellPlain_21 : decode cX7_tellPlain 21 = .ok (.invokevirtual 43, 3) := by decide +kernel
theorem dX7_tellPlain_24 : decode cX7_tellPlain 24 = .ok (.ireturn, 1) := by decide +kernel
theorem dX7_tellAsked_0 : decode cX7_tellAsked 0 = .ok (.aload_n 0, 1) := by decide +kernel
theorem dX7_tellAsked_1 : decode cX7_tellAsked 1 = .ok (.iconst 1, 1) := by decide +kernel
theorem dX7_tellAsked_2 : decode cX7_tellAsked 2 = .ok (.invokevirtual 46, 3) := by decide +kernel
theorem dX7_tellAsked_5 : decode cX7_tellAsked 5 = .ok (.aload_n 1, 1) := by decide +kernel
theorem dX7_tellAsked_6 : decode cX7_tellAsked 6 = .ok (.getfield 50, 3) := by decide +kernel
theorem dX7_tellAsked_9 : decode cX7_tellAsked 9 = .ok (.iload_n 2, 1) := by decide +kernel
theorem dX7_tellAsked_10 : decode cX7_tellAsked 10 = .ok (.iaload, 1) := by decide +kernel
theorem dX7_tellAsked_11 : decode cX7_tellAsked 11 = .ok (.aload_n 1, 1) := by decide +kernel
theorem dX7_tellAsked_12 : decode cX7_tellAsked 12 = .ok (.getfield 54, 3) := by decide +kernel
theorem dX7_tellAsked_15 : decode cX7_tellAsked 15 = .ok (.iload_n 2, 1) := by decide +kernel
theorem dX7_tellAsked_16 : decode cX7_tellAsked 16 = .ok (.iaload, 1) := by decide +kernel
theorem dX7_tellAsked_17 : decode cX7_tellAsked 17 = .ok (.isub, 1) := by decide +kernel
theorem dX7_tellAsked_18 : decode cX7_tellAsked 18 = .ok (.ireturn, 1) := by decide +kernel
theorem dX7_tellMade_0 : decode cX7_tellMade 0 = .ok (.aload_n 0, 1) := by decide +kernel
theorem dX7_tellMade_1 : decode cX7_tellMade 1 = .ok (.iconst 2, 1) := by decide +kernel
theorem dX7_tellMade_2 : decode cX7_tellMade 2 = .ok (.invokevirtual 46, 3) := by decide +kernel
theorem dX7_tellMade_5 : decode cX7_tellMade 5 = .ok (.aload_n 0, 1) := by decide +kernel
theorem dX7_tellMade_6 : decode cX7_tellMade 6 = .ok (.aload_n 1, 1) := by decide +kernel
theorem dX7_tellMade_7 : decode cX7_tellMade 7 = .ok (.iload_n 2, 1) := by decide +kernel
theorem dX7_tellMade_8 : decode cX7_tellMade 8 = .ok (.invokevirtual 43, 3) := by decide +kernel
theorem dX7_tellMade_11 : decode cX7_tellMade 11 = .ok (.sipush 1000, 3) := by decide +kernel
theorem dX7_tellMade_14 : decode cX7_tellMade 14 = .ok (.iadd, 1) := by decide +kernel
theorem dX7_tellMade_15 : decode cX7_tellMade 15 = .ok (.ireturn, 1) := by decide +kernel
theorem dX7_tellNeeded_0 : decode cX7_tellNeeded 0 = .ok (.aload_n 0, 1) := by decide +kernel
theorem dX7_tellNeeded_1 : decode cX7_tellNeeded 1 = .ok (.iconst 3, 1) := by decide +kernel
theorem dX7_tellNeeded_2 : decode cX7_tellNeeded 2 = .ok (.invokevirtual 46, 3) := by decide +kernel
theorem dX7_tellNeeded_5 : decode cX7_tellNeeded 5 = .ok (.iconst 2, 1) := by decide +kernel
theorem dX7_tellNeeded_6 : decode cX7_tellNeeded 6 = .ok (.aload_n 0, 1) := by decide +kernel
theorem dX7_tellNeeded_7 : decode cX7_tellNeeded 7 = .ok (.aload_n 1, 1) := by decide +kernel
theorem dX7_tellNeeded_8 : decode cX7_tellNeeded 8 = .ok (.iload_n 2, 1) := by decide +kernel
theorem dX7_tellNeeded_9 : decode cX7_tellNeeded 9 = .ok (.invokevirtual 15, 3) := by decide +kernel
theorem dX7_tellNeeded_12 : decode cX7_tellNeeded 12 = .ok (.imul, 1) := by decide +kernel
theorem dX7_tellNeeded_13 : decode cX7_tellNeeded 13 = .ok (.ireturn, 1) := by decide +kernel
theorem dX7_addressLent_0 : decode cX7_addressLent 0 = .ok (.aload_n 0, 1) := by decide +kernel
theorem dX7_addressLent_1 : decode cX7_addressLent 1 = .ok (.iconst 4, 1) := by decide +kernel
theorem dX7_addressLent_2 : decode cX7_addressLent 2 = .ok (.invokevirtual 46, 3) := by decide +kernel
theorem dX7_addressLent_5 : decode cX7_addressLent 5 = .ok (.bipush 10, 2) := by decide +kernel
theorem dX7_addressLent_7 : decode cX7_addressLent 7 = .ok (.iload_n 1, 1) := by decide +kernel
theorem dX7_addressLent_8 : decode cX7_addressLent 8 = .ok (.imul, 1) := by decide +kernel
theorem dX7_addressLent_9 : decode cX7_addressLent 9 = .ok (.ireturn, 1) := by decide +kernel
theorem dX7_addressMade_0 : decode cX7_addressMade 0 = .ok (.aload_n 0, 1) := by decide +kernel
theorem dX7_addressMade_1 : decode cX7_addressMade 1 = .ok (.iconst 5, 1) := by decide +kernel
theorem dX7_addressMade_2 : decode cX7_addressMade 2 = .ok (.invokevirtual 46, 3) := by decide +kernel
theorem dX7_addressMade_5 : decode cX7_addressMade 5 = .ok (.iconst 5, 1) := by decide +kernel
theorem dX7_addressMade_6 : decode cX7_addressMade 6 = .ok (.ireturn, 1) := by decide +kernel
theorem dX8_init_0 : decode cX8_init 0 = .ok (.aload_n 0, 1) := by decide +kernel
theorem dX8_init_1 : decode cX8_init 1 = .ok (.invokespecial 3, 3) := by decide +kernel
theorem dX8_init_4 : decode cX8_init 4 = .ok (.aload_n 0, 1) := by decide +kernel
theorem dX8_init_5 : decode cX8_init 5 = .ok (.bipush 12, 2) := by decide +kernel
theorem dX8_init_7 : decode cX8_init 7 = .ok (.newarray .int, 2) := by decide +kernel
theorem dX8_init_9 : decode cX8_init 9 = .ok (.putfield 9, 3) := by decide +kernel
theorem dX8_init_12 : decode cX8_init 12 = .ok (.aload_n 0, 1) := by decide +kernel
theorem dX8_init_13 : decode cX8_init 13 = .ok (.bipush 12, 2) := by decide +kernel
theorem dX8_init_15 : decode cX8_init 15 = .ok (.newarray .int, 2) := by decide +kernel
theorem dX8_init_17 : decode cX8_init 17 = .ok (.putfield 15, 3) := by decide +kernel
theorem dX8_init_20 : decode cX8_init 20 = .ok (.aload_n 0, 1) := by decide +kernel
theorem dX8_init_21 : decode cX8_init 21 = .ok (.new 18, 3) := by decide +kernel
theorem dX8_init_24 : decode cX8_init 24 = .ok (.dup, 1) := by decide +kernel
theorem dX8_init_25 : decode cX8_init 25 = .ok (.invokespecial 20, 3) := by decide +kernel
theorem dX8_init_28 : decode cX8_init 28 = .ok (.putfield 21, 3) := by decide +kernel
theorem dX8_init_31 : decode cX8_init 31 = .ok (.aload_n 0, 1) := by decide +kernel
theorem dX8_init_32 : decode cX8_init 32 = .ok (.getfield 9, 3) := by decide +kernel
theorem dX8_init_35 : decode cX8_init 35 = .ok (.ldc 25, 2) := by decide +kernel
theorem dX8_init_37 : decode cX8_init 37 = .ok (.invokestatic 26, 3) := by decide +kernel
theorem dX8_init_40 : decode cX8_init 40 = .ok (.return_, 1) := by decide +kernel
theorem dX8_run_0 : decode cX8_run 0 = .ok (.aload_n 1, 1) := by decide +kernel
theorem dX8_run_1 : decode cX8_run 1 = .ok (.getfield 32, 3) := by decide +kernel
theorem dX8_run_4 : decode cX8_run 4 = .ok (.getfield 38, 3) := by decide +kernel
theorem dX8_run_7 : decode cX8_run 7 = .ok (.iload_n 2, 1) := by decide +kernel
theorem dX8_run_8 : decode cX8_run 8 = .ok (.iaload, 1) := by decide +kernel
theorem dX8_run_9 : decode cX8_run 9 = .ok (.aload_n 1, 1) := by decide +kernel
theorem dX8_run_10 : decode cX8_run 10 = .ok (.getfield 32, 3) := by decide +kernel
theorem dX8_run_13 : decode cX8_run 13 = .ok (.invokevirtual 43, 3) := by decide +kernel
theorem dX8_run_16 : decode cX8_run 16 = .ok (.iand, 1) := by decide +kernel
theorem dX8_run_17 : decode cX8_run 17 = .ok (.istore_n 3, 1) := by decide +kernel
theorem dX8_run_18 : decode cX8_run 18 = .ok (.aload_n 1, 1) := by decide +kernel
theorem dX8_run_19 : decode cX8_run 19 = .ok (.getfield 32, 3) := by decide +kernel
theorem dX8_run_22 : decode cX8_run 22 = .ok (.iload_n 3, 1) := by decide +kernel
theorem dX8_run_23 : decode cX8_run 23 = .ok (.invokestatic 47, 3) := by decide +kernel
theorem dX8_run_26 : decode cX8_run 26 = .ok (.istore 4, 2) := by decide +kernel
theorem dX8_run_28 : decode cX8_run 28 = .ok (.iload 4, 2) := by decide +kernel
theorem dX8_run_30 : decode cX8_run 30 = .ok (.sipush 20000, 3) := by decide +kernel
theorem dX8_run_33 : decode cX8_run 33 = .ok (.if_icmp .le 6, 3) := by decide +kernel
theorem dX8_run_36 : decode cX8_run 36 = .ok (.bipush (-6), 2) := by decide +kernel
theorem dX8_run_38 : decode cX8_run 38 = .ok (.ireturn, 1) := by decide +kernel
theorem dX8_run_39 : decode cX8_run 39 = .ok (.aload_n 0, 1) := by decide +kernel
theorem dX8_run_40 : decode cX8_run 40 = .ok (.iload_n 3, 1) := by decide +kernel
theorem dX8_run_41 : decode cX8_run 41 = .ok (.invokevirtual 51, 3) := by decide +kernel
theorem dX8_run_44 : decode cX8_run 44 = .ok (.aload_n 0, 1) := by decide +kernel
theorem dX8_run_45 : decode cX8_run 45 = .ok (.getfield 9, 3) := by decide +kernel
theorem dX8_run_48 : decode cX8_run 48 = .ok (.ldc 25, 2) := by decide +kernel
theorem dX8_run_50 : decode cX8_run 50 = .ok (.invokestatic 26, 3) := by decide +kernel
theorem dX8_run_53 : decode cX8_run 53 = .ok (.aload_n 0, 1) := by decide +kernel
theorem dX8_run_54 : decode cX8_run 54 = .ok (.getfield 21, 3) := by decide +kernel
theorem dX8_run_57 : decode cX8_run 57 = .ok (.aload_n 1, 1) := by decide +kernel
theorem dX8_run_58 : decode cX8_run 58 = .ok (.aload_n 0, 1) := by decide +kernel
theorem dX8_run_59 : decode cX8_run 59 = .ok (.getfield 9, 3) := by decide +kernel
theorem dX8_run_62 : decode cX8_run 62 = .ok (.invokevirtual 55, 3) := by decide +kernel
theorem dX8_run_65 : decode cX8_run 65 = .ok (.aload_n 0, 1) := by decide +kernel
theorem dX8_run_66 : decode cX8_run 66 = .ok (.iconst 1, 1) := by decide +kernel
theorem dX8_run_67 : decode cX8_run 67 = .ok (.putfield 59, 3) := by decide +kernel
theorem dX8_run_70 : decode cX8_run 70 = .ok (.aload_n 0, 1) := by decide +kernel
theorem dX8_run_71 : decode cX8_run 71 = .ok (.getfield 21, 3) := by decide +kernel
theorem dX8_run_74 : decode cX8_run 74 = .ok (.getfield 63, 3) := by decide +kernel
theorem dX8_run_77 : decode cX8_run 77 = .ok (.iload_n 2, 1) := by decide +kernel
theorem dX8_run_78 : decode cX8_run 78 = .ok (.baload, 1) := by decide +kernel
theorem dX8_run_79 : decode cX8_run 79 = .ok (.ifCond .ne 45, 3) := by decide +kernel
theorem dX8_run_82 : decode cX8_run 82 = .ok (.aload_n 0, 1) := by decide +kernel
theorem dX8_run_83 : decode cX8_run 83 = .ok (.getfield 59, 3) := by decide +kernel
theorem dX8_run_86 : decode cX8_run 86 = .ok (.iload 4, 2) := by decide +kernel
theorem dX8_run_88 : decode cX8_run 88 = .ok (.if_icmp .ge 36, 3) := by decide +kernel
theorem dX8_run_91 : decode cX8_run 91 = .ok (.aload_n 0, 1) := by decide +kernel
theorem dX8_run_92 : decode cX8_run 92 = .ok (.getfield 21, 3) := by decide +kernel
theorem dX8_run_95 : decode cX8_run 95 = .ok (.aload_n 1, 1) := by decide +kernel
theorem dX8_run_96 : decode cX8_run 96 = .ok (.aload_n 0, 1) := by decide +kernel
theorem dX8_run_97 : decode cX8_run 97 = .ok (.getfield 9, 3) := by decide +kernel
theorem dX8_run_100 : decode cX8_run 100 = .ok (.aload_n 0, 1) := by decide +kernel
theorem dX8_run_101 : decode cX8_run 101 = .ok (.aload_n 1, 1) := by decide +kernel
theorem dX8_run_102 : decode cX8_run 102 = .ok (.getfield 32, 3) := by decide +kernel
theorem dX8_run_105 : decode cX8_run 105 = .ok (.invokevirtual 67, 3) := by decide +kernel
theorem dX8_run_108 : decode cX8_run 108 = .ok (.invokevirtual 71, 3) := by decide +kernel
theorem dX8_run_111 : decode cX8_run 111 = .ok (.aload_n 0, 1) := by decide +kernel
theorem dX8_run_112 : decode cX8_run 112 = .ok (.dup, 1) := by decide +kernel
theorem dX8_run_113 : decode cX8_run 113 = .ok (.getfield 59, 3) := by decide +kernel
theorem dX8_run_116 : decode cX8_run 116 = .ok (.iconst 1, 1) := by decide +kernel
theorem dX8_run_117 : decode cX8_run 117 = .ok (.iadd, 1) := by decide +kernel
theorem dX8_run_118 : decode cX8_run 118 = .ok (.putfield 59, 3) := by decide +kernel
theorem dX8_run_121 : decode cX8_run 121 = .ok (.goto (-51), 3) := by decide +kernel
theorem dX8_run_124 : decode cX8_run 124 = .ok (.aload_n 0, 1) := by decide +kernel
theorem dX8_run_125 : decode cX8_run 125 = .ok (.getfield 21, 3) := by decide +kernel
theorem dX8_run_128 : decode cX8_run 128 = .ok (.getfield 63, 3) := by decide +kernel
theorem dX8_run_131 : decode cX8_run 131 = .ok (.iload_n 2, 1) := by decide +kernel
theorem dX8_run_132 : decode cX8_run 132 = .ok (.baload, 1) := by decide +kernel
theorem dX8_run_133 : decode cX8_run 133 = .ok (.ifCond .ne 12, 3) := by decide +kernel
theorem dX8_run_136 : decode cX8_run 136 = .ok (.aload_n 0, 1) := by decide +kernel
theorem dX8_run_137 : decode cX8_run 137 = .ok (.getfield 9, 3) := by decide +kernel
theorem dX8_run_140 : decode cX8_run 140 = .ok (.ldc 25, 2) := by decide +kernel
theorem dX8_run_142 : decode cX8_run 142 = .ok (.invokestatic 26, 3) := by decide +kernel
theorem dX8_run_145 : decode cX8_run 145 = .ok (.aload_n 0, 1) := by decide +kernel
theorem dX8_run_146 : decode cX8_run 146 = .ok (.getfield 21, 3) := by decide +kernel
theorem dX8_run_149 : decode cX8_run 149 = .ok (.getfield 63, 3) := by decide +kernel
theorem dX8_run_152 : decode cX8_run 152 = .ok (.iload_n 2, 1) := by decide +kernel
theorem dX8_run_153 : decode cX8_run 153 = .ok (.baload, 1) := by decide +kernel
theorem dX8_run_154 : decode cX8_run 154 = .ok (.invokestatic 75, 3) := by decide +kernel
theorem dX8_run_157 : decode cX8_run 157 = .ok (.ireturn, 1) := by decide +kernel
theorem dX8_countRows_0 : decode cX8_countRows 0 = .ok (.iconst 1, 1) := by decide +kernel
theorem dX8_countRows_1 : decode cX8_countRows 1 = .ok (.istore_n 2, 1) := by decide +kernel
theorem dX8_countRows_2 : decode cX8_countRows 2 = .ok (.iconst 0, 1) := by decide +kernel
theorem dX8_countRows_3 : decode cX8_countRows 3 = .ok (.istore_n 3, 1) := by decide +kernel
theorem dX8_countRows_4 : decode cX8_countRows 4 = .ok (.iload_n 3, 1) := by decide +kernel
theorem dX8_countRows_5 : decode cX8_countRows 5 = .ok (.aload_n 0, 1) := by decide +kernel
theorem dX8_countRows_6 : decode cX8_countRows 6 = .ok (.getfield 79, 3) := by decide +kernel
theorem dX8_countRows_9 : decode cX8_countRows 9 = .ok (.if_icmp .ge 42, 3) := by decide +kernel
theorem dX8_countRows_12 : decode cX8_countRows 12 = .ok (.iload_n 2, 1) := by decide +kernel
theorem dX8_countRows_13 : decode cX8_countRows 13 = .ok (.sipush 20000, 3) := by decide +kernel
theorem dX8_countRows_16 : decode cX8_countRows 16 = .ok (.if_icmp .gt 35, 3) := by decide +kernel
theorem dX8_countRows_19 : decode cX8_countRows 19 = .ok (.iload_n 1, 1) := by decide +kernel
theorem dX8_countRows_20 : decode cX8_countRows 20 = .ok (.iload_n 3, 1) := by decide +kernel
theorem dX8_countRows_21 : decode cX8_countRows 21 = .ok (.invokestatic 82, 3) := by decide +kernel
theorem dX8_countRows_24 : decode cX8_countRows 24 = .ok (.ifCond .eq 21, 3) := by decide +kernel
theorem dX8_countRows_27 : decode cX8_countRows 27 = .ok (.iload_n 2, 1) := by decide +kernel
theorem dX8_countRows_28 : decode cX8_countRows 28 = .ok (.aload_n 0, 1) := by decide +kernel
theorem dX8_countRows_29 : decode cX8_countRows 29 = .ok (.getfield 86, 3) := by decide +kernel
theorem dX8_countRows_32 : decode cX8_countRows 32 = .ok (.iload_n 3, 1) := by decide +kernel
theorem dX8_countRows_33 : decode cX8_countRows 33 = .ok (.iaload, 1) := by decide +kernel
theorem dX8_countRows_34 : decode cX8_countRows 34 = .ok (.aload_n 0, 1) := by decide +kernel
theorem dX8_countRows_35 : decode cX8_countRows 35 = .ok (.getfield 89, 3) := by decide +kernel
theorem dX8_countRows_38 : decode cX8_countRows 38 = .ok (.iload_n 3, 1) := by decide +kernel
theorem dX8_countRows_39 : decode cX8_countRows 39 = .ok (.iaload, 1) := by decide +kernel
theorem dX8_countRows_40 : decode cX8_countRows 40 = .ok (.isub, 1) := by decide +kernel
theorem dX8_countRows_41 : decode cX8_countRows 41 = .ok (.iconst 2, 1) := by decide +kernel
theorem dX8_countRows_42 : decode cX8_countRows 42 = .ok (.iadd, 1) := by decide +kernel
theorem dX8_countRows_43 : decode cX8_countRows 43 = .ok (.imul, 1) := by decide +kernel
theorem dX8_countRows_44 : decode cX8_countRows 44 = .ok (.istore_n 2, 1) := by decide +kernel
theorem dX8_countRows_45 : decode cX8_countRows 45 = .ok (.iinc 3 1, 3) := by decide +kernel
theorem dX8_countRows_48 : decode cX8_countRows 48 = .ok (.goto (-44), 3) := by decide +kernel
theorem dX8_countRows_51 : decode cX8_countRows 51 = .ok (.iload_n 2, 1) := by decide +kernel
theorem dX8_countRows_52 : decode cX8_countRows 52 = .ok (.ireturn, 1) := by decide +kernel
theorem dX8_listTurning_0 : decode cX8_listTurning 0 = .ok (.aload_n 0, 1) := by decide +kernel
theorem dX8_listTurning_1 : decode cX8_listTurning 1 = .ok (.iconst 0, 1) := by decide +kernel
theorem dX8_listTurning_2 : decode cX8_listTurning 2 = .ok (.putfield 92, 3) := by decide +kernel
theorem dX8_listTurning_5 : decode cX8_listTurning 5 = .ok (.iconst 0, 1) := by decide +kernel
theorem dX8_listTurning_6 : decode cX8_listTurning 6 = .ok (.istore_n 2, 1) := by decide +kernel
theorem dX8_listTurning_7 : decode cX8_listTurning 7 = .ok (.iload_n 2, 1) := by decide +kernel
theorem dX8_listTurning_8 : decode cX8_listTurning 8 = .ok (.bipush 12, 2) := by decide +kernel
theorem dX8_listTurning_10 : decode cX8_listTurning 10 = .ok (.if_icmp .ge 37, 3) := by decide +kernel
theorem dX8_listTurning_13 : decode cX8_listTurning 13 = .ok (.iload_n 1, 1) := by decide +kernel
theorem dX8_listTurning_14 : decode cX8_listTurning 14 = .ok (.iload_n 2, 1) := by decide +kernel
theorem dX8_listTurning_15 : decode cX8_listTurning 15 = .ok (.invokestatic 82, 3) := by decide +kernel
theorem dX8_listTurning_18 : decode cX8_listTurning 18 = .ok (.ifCond .eq 23, 3) := by decide +kernel
theorem dX8_listTurning_21 : decode cX8_listTurning 21 = .ok (.aload_n 0, 1) := by decide +kernel
theorem dX8_listTurning_22 : decode cX8_listTurning 22 = .ok (.getfield 15, 3) := by decide +kernel
theorem dX8_listTurning_25 : decode cX8_listTurning 25 = .ok (.aload_n 0, 1) := by decide +kernel
theorem dX8_listTurning_26 : decode cX8_listTurning 26 = .ok (.getfield 92, 3) := by decide +kernel
theorem dX8_listTurning_29 : decode cX8_listTurning 29 = .ok (.iload_n 2, 1) := by decide +kernel
theorem dX8_listTurning_30 : decode cX8_listTurning 30 = .ok (.iastore, 1) := by decide +kernel
theorem dX8_listTurning_31 : decode cX8_listTurning 31 = .ok (.aload_n 0, 1) := by decide +kernel
theorem dX8_listTurning_32 : decode cX8_listTurning 32 = .ok (.dup, 1) := by decide +kernel
theorem dX8_listTurning_33 : decode cX8_listTurning 33 = .ok (.getfield 92, 3) := by decide +kernel
theorem dX8_listTurning_36 : decode cX8_listTurning 36 = .ok (.iconst 1, 1) := by decide +kernel
theorem dX8_listTurning_37 : decode cX8_listTurning 37 = .ok (.iadd, 1) := by decide +kernel
theorem dX8_listTurning_38 : decode cX8_listTurning 38 = .ok (.putfield 92, 3) := by decide +kernel
theorem dX8_listTurning_41 : decode cX8_listTurning 41 = .ok (.iinc 2 1, 3) := by decide +kernel
theorem dX8_listTurning_44 : decode cX8_listTurning 44 = .ok (.goto (-37), 3) := by decide +kernel
theorem dX8_listTurning_47 : decode cX8_listTurning 47 = .ok (.return_, 1) := by decide +kernel
theorem dX8_turnRow_0 : decode cX8_turnRow 0 = .ok (.iconst 0, 1) := by decide +kernel
theorem dX8_turnRow_1 : decode cX8_turnRow 1 = .ok (.istore_n 2, 1) := by decide +kernel
theorem dX8_turnRow_2 : decode cX8_turnRow 2 = .ok (.aload_n 0, 1) := by decide +kernel
theorem dX8_turnRow_3 : decode cX8_turnRow 3 = .ok (.getfield 92, 3) := by decide +kernel
theorem dX8_turnRow_6 : decode cX8_turnRow 6 = .ok (.iconst 1, 1) := by decide +kernel
theorem dX8_turnRow_7 : decode cX8_turnRow 7 = .ok (.isub, 1) := by decide +kernel
theorem dX8_turnRow_8 : decode cX8_turnRow 8 = .ok (.istore_n 3, 1) := by decide +kernel
theorem dX8_turnRow_9 : decode cX8_turnRow 9 = .ok (.iload_n 3, 1) := by decide +kernel
theorem dX8_turnRow_10 : decode cX8_turnRow 10 = .ok (.ifCond .lt 91, 3) := by decide +kernel
theorem dX8_turnRow_13 : decode cX8_turnRow 13 = .ok (.aload_n 0, 1) := by decide +kernel
theorem dX8_turnRow_14 : decode cX8_turnRow 14 = .ok (.getfield 15, 3) := by decide +kernel
theorem dX8_turnRow_17 : decode cX8_turnRow 17 = .ok (.iload_n 3, 1) := by decide +kernel
theorem dX8_turnRow_18 : decode cX8_turnRow 18 = .ok (.iaload, 1) := by decide +kernel
theorem dX8_turnRow_19 : decode cX8_turnRow 19 = .ok (.istore 4, 2) := by decide +kernel
theorem dX8_turnRow_21 : decode cX8_turnRow 21 = .ok (.iload_n 2, 1) := by decide +kernel
theorem dX8_turnRow_22 : decode cX8_turnRow 22 = .ok (.iconst 1, 1) := by decide +kernel
theorem dX8_turnRow_23 : decode cX8_turnRow 23 = .ok (.iload 4, 2) := by decide +kernel
theorem dX8_turnRow_25 : decode cX8_turnRow 25 = .ok (.ishl, 1) := by decide +kernel
theorem dX8_turnRow_26 : decode cX8_turnRow 26 = .ok (.ior, 1) := by decide +kernel
theorem dX8_turnRow_27 : decode cX8_turnRow 27 = .ok (.istore_n 2, 1) := by decide +kernel
theorem dX8_turnRow_28 : decode cX8_turnRow 28 = .ok (.aload_n 0, 1) := by decide +kernel
theorem dX8_turnRow_29 : decode cX8_turnRow 29 = .ok (.getfield 9, 3) := by decide +kernel
theorem dX8_turnRow_32 : decode cX8_turnRow 32 = .ok (.iload 4, 2) := by decide +kernel
theorem dX8_turnRow_34 : decode cX8_turnRow 34 = .ok (.iaload, 1) := by decide +kernel
theorem dX8_turnRow_35 : decode cX8_turnRow 35 = .ok (.ldc 25, 2) := by decide +kernel
theorem dX8_turnRow_37 : decode cX8_turnRow 37 = .ok (.if_icmp .ne 19, 3) := by decide +kernel
theorem dX8_turnRow_40 : decode cX8_turnRow 40 = .ok (.aload_n 0, 1) := by decide +kernel
theorem dX8_turnRow_41 : decode cX8_turnRow 41 = .ok (.getfield 9, 3) := by decide +kernel
theorem dX8_turnRow_44 : decode cX8_turnRow 44 = .ok (.iload 4, 2) := by decide +kernel
theorem dX8_turnRow_46 : decode cX8_turnRow 46 = .ok (.aload_n 1, 1) := by decide +kernel
theorem dX8_turnRow_47 : decode cX8_turnRow 47 = .ok (.getfield 89, 3) := by decide +kernel
theorem dX8_turnRow_50 : decode cX8_turnRow 50 = .ok (.iload 4, 2) := by decide +kernel
theorem dX8_turnRow_52 : decode cX8_turnRow 52 = .ok (.iaload, 1) := by decide +kernel
theorem dX8_turnRow_53 : decode cX8_turnRow 53 = .ok (.iastore, 1) := by decide +kernel
theorem dX8_turnRow_54 : decode cX8_turnRow 54 = .ok (.iload_n 2, 1) := by decide +kernel
theorem dX8_turnRow_55 : decode cX8_turnRow 55 = .ok (.ireturn, 1) := by decide +kernel
theorem dX8_turnRow_56 : decode cX8_turnRow 56 = .ok (.aload_n 0, 1) := by decide +kernel
theorem dX8_turnRow_57 : decode cX8_turnRow 57 = .ok (.getfield 9, 3) := by decide +kernel
theorem dX8_turnRow_60 : decode cX8_turnRow 60 = .ok (.iload 4, 2) := by decide +kernel
theorem dX8_turnRow_62 : decode cX8_turnRow 62 = .ok (.iaload, 1) := by decide +kernel
theorem dX8_turnRow_63 : decode cX8_turnRow 63 = .ok (.aload_n 1, 1) := by decide +kernel
theorem dX8_turnRow_64 : decode cX8_turnRow 64 = .ok (.getfield 86, 3) := by decide +kernel
theorem dX8_turnRow_67 : decode cX8_turnRow 67 = .ok (.iload 4, 2) := by decide +kernel
theorem dX8_turnRow_69 : decode cX8_turnRow 69 = .ok (.iaload, 1) := by decide +kernel
theorem dX8_turnRow_70 : decode cX8_turnRow 70 = .ok (.if_icmp .ge 16, 3) := by decide +kernel
theorem dX8_turnRow_73 : decode cX8_turnRow 73 = .ok (.aload_n 0, 1) := by decide +kernel
theorem dX8_turnRow_74 : decode cX8_turnRow 74 = .ok (.getfield 9, 3) := by decide +kernel
theorem dX8_turnRow_77 : decode cX8_turnRow 77 = .ok (.iload 4, 2) := by decide +kernel
theorem dX8_turnRow_79 : decode cX8_turnRow 79 = .ok (.dup2, 1) := by decide +kernel
theorem dX8_turnRow_80 : decode cX8_turnRow 80 = .ok (.iaload, 1) := by decide +kernel
theorem dX8_turnRow_81 : decode cX8_turnRow 81 = .ok (.iconst 1, 1) := by decide +kernel
theorem dX8_turnRow_82 : decode cX8_turnRow 82 = .ok (.iadd, 1) := by decide +kernel
theorem dX8_turnRow_83 : decode cX8_turnRow 83 = .ok (.iastore, 1) := by decide +kernel
theorem dX8_turnRow_84 : decode cX8_turnRow 84 = .ok (.iload_n 2, 1) := by decide +kernel
theorem dX8_turnRow_85 : decode cX8_turnRow 85 = .ok (.ireturn, 1) := by decide +kernel
theorem dX8_turnRow_86 : decode cX8_turnRow 86 = .ok (.aload_n 0, 1) := by decide +kernel
theorem dX8_turnRow_87 : decode cX8_turnRow 87 = .ok (.getfield 9, 3) := by decide +kernel
theorem dX8_turnRow_90 : decode cX8_turnRow 90 = .ok (.iload 4, 2) := by decide +kernel
theorem dX8_turnRow_92 : decode cX8_turnRow 92 = .ok (.ldc 25, 2) := by decide +kernel
theorem dX8_turnRow_94 : decode cX8_turnRow 94 = .ok (.iastore, 1) := by decide +kernel
theorem dX8_turnRow_95 : decode cX8_turnRow 95 = .ok (.iinc 3 (-1), 3) := by decide +kernel
theorem dX8_turnRow_98 : decode cX8_turnRow 98 = .ok (.goto (-89), 3) := by decide +kernel
theorem dX8_turnRow_101 : decode cX8_turnRow 101 = .ok (.iload_n 2, 1) := by decide +kernel
theorem dX8_turnRow_102 : decode cX8_turnRow 102 = .ok (.ireturn, 1) := by decide +kernel
theorem dX9_init_0 : decode cX9_init 0 = .ok (.aload_n 0, 1) := by decide +kernel
theorem dX9_init_1 : decode cX9_init 1 = .ok (.invokespecial 1, 3) := by decide +kernel
theorem dX9_init_4 : decode cX9_init 4 = .ok (.aload_n 0, 1) := by decide +kernel
theorem dX9_init_5 : decode cX9_init 5 = .ok (.new 7, 3) := by decide +kernel
theorem dX9_init_8 : decode cX9_init 8 = .ok (.dup, 1) := by decide +kernel
theorem dX9_init_9 : decode cX9_init 9 = .ok (.invokespecial 9, 3) := by decide +kernel
theorem dX9_init_12 : decode cX9_init 12 = .ok (.putfield 10, 3) := by decide +kernel
theorem dX9_init_15 : decode cX9_init 15 = .ok (.aload_n 0, 1) := by decide +kernel
theorem dX9_init_16 : decode cX9_init 16 = .ok (.new 16, 3) := by decide +kernel
theorem dX9_init_19 : decode cX9_init 19 = .ok (.dup, 1) := by decide +kernel
theorem dX9_init_20 : decode cX9_init 20 = .ok (.invokespecial 18, 3) := by decide +kernel
theorem dX9_init_23 : decode cX9_init 23 = .ok (.putfield 19, 3) := by decide +kernel
theorem dX9_init_26 : decode cX9_init 26 = .ok (.aload_n 0, 1) := by decide +kernel
theorem dX9_init_27 : decode cX9_init 27 = .ok (.iconst 4, 1) := by decide +kernel
theorem dX9_init_28 : decode cX9_init 28 = .ok (.bipush 12, 2) := by decide +kernel
theorem dX9_init_30 : decode cX9_init 30 = .ok (.multianewarray 23 2, 4) := by decide +kernel
theorem dX9_init_34 : decode cX9_init 34 = .ok (.putfield 25, 3) := by decide +kernel
theorem dX9_init_37 : decode cX9_init 37 = .ok (.iconst 0, 1) := by decide +kernel
theorem dX9_init_38 : decode cX9_init 38 = .ok (.istore_n 1, 1) := by decide +kernel
theorem dX9_init_39 : decode cX9_init 39 = .ok (.iload_n 1, 1) := by decide +kernel
theorem dX9_init_40 : decode cX9_init 40 = .ok (.iconst 4, 1) := by decide +kernel
theorem dX9_init_41 : decode cX9_init 41 = .ok (.if_icmp .ge 20, 3) := by decide +kernel
theorem dX9_init_44 : decode cX9_init 44 = .ok (.aload_n 0, 1) := by decide +kernel
theorem dX9_init_45 : decode cX9_init 45 = .ok (.getfield 25, 3) := by decide +kernel
theorem dX9_init_48 : decode cX9_init 48 = .ok (.iload_n 1, 1) := by decide +kernel
theorem dX9_init_49 : decode cX9_init 49 = .ok (.aaload, 1) := by decide +kernel
theorem dX9_init_50 : decode cX9_init 50 = .ok (.ldc 28, 2) := by decide +kernel
theorem dX9_init_52 : decode cX9_init 52 = .ok (.invokestatic 29, 3) := by decide +kernel
theorem dX9_init_55 : decode cX9_init 55 = .ok (.iinc 1 1, 3) := by decide +kernel
theorem dX9_init_58 : decode cX9_init 58 = .ok (.goto (-19), 3) := by decide +kernel
theorem dX9_init_61 : decode cX9_init 61 = .ok (.aload_n 0, 1) := by decide +kernel
theorem dX9_init_62 : decode cX9_init 62 = .ok (.new 35, 3) := by decide +kernel
theorem dX9_init_65 : decode cX9_init 65 = .ok (.dup, 1) := by decide +kernel
theorem dX9_init_66 : decode cX9_init 66 = .ok (.invokespecial 37, 3) := by decide +kernel
theorem dX9_init_69 : decode cX9_init 69 = .ok (.putfield 38, 3) := by decide +kernel
theorem dX9_init_72 : decode cX9_init 72 = .ok (.aload_n 0, 1) := by decide +kernel
theorem dX9_init_73 : decode cX9_init 73 = .ok (.new 42, 3) := by decide +kernel
theorem dX9_init_76 : decode cX9_init 76 = .ok (.dup, 1) := by decide +kernel
theorem dX9_init_77 : decode cX9_init 77 = .ok (.invokespecial 44, 3) := by decide +kernel
theorem dX9_init_80 : decode cX9_init 80 = .ok (.putfield 45, 3) := by decide +kernel
theorem dX9_init_83 : decode cX9_init 83 = .ok (.aload_n 0, 1) := by decide +kernel
theorem dX9_init_84 : decode cX9_init 84 = .ok (.new 49, 3) := by decide +kernel
theorem dX9_init_87 : decode cX9_init 87 = .ok (.dup, 1) := by decide +kernel
theorem dX9_init_88 : decode cX9_init 88 = .ok (.invokespecial 51, 3) := by decide +kernel
theorem dX9_init_91 : decode cX9_init 91 = .ok (.putfield 52, 3) := by decide +kernel
theorem dX9_init_94 : decode cX9_init 94 = .ok (.aload_n 0, 1) := by decide +kernel
theorem dX9_init_95 : decode cX9_init 95 = .ok (.new 56, 3) := by decide +kernel
theorem dX9_init_98 : decode cX9_init 98 = .ok (.dup, 1) := by decide +kernel
theorem dX9_init_99 : decode cX9_init 99 = .ok (.invokespecial 58, 3) := by decide +kernel
theorem dX9_init_102 : decode cX9_init 102 = .ok (.putfield 59, 3) := by decide +kernel
theorem dX9_init_105 : decode cX9_init 105 = .ok (.aload_n 0, 1) := by decide +kernel
theorem dX9_init_106 : decode cX9_init 106 = .ok (.new 63, 3) := by decide +kernel
theorem dX9_init_109 : decode cX9_init 109 = .ok (.dup, 1) := by decide +kernel
theorem dX9_init_110 : decode cX9_init 110 = .ok (.invokespecial 65, 3) := by decide +kernel
theorem dX9_init_113 : decode cX9_init 113 = .ok (.putfield 66, 3) := by decide +kernel
theorem dX9_init_116 : decode cX9_init 116 = .ok (.return_, 1) := by decide +kernel
theorem dX9_field_0 : decode cX9_field 0 = .ok (.iload_n 1, 1) := by decide +kernel
theorem dX9_field_1 : decode cX9_field 1 = .ok (.sipush (-1000), 3) := by decide +kernel
theorem dX9_field_4 : decode cX9_field 4 = .ok (.if_icmp .lt 15, 3) := by decide +kernel
theorem dX9_field_7 : decode cX9_field 7 = .ok (.iload_n 2, 1) := by decide +kernel
theorem dX9_field_8 : decode cX9_field 8 = .ok (.sipush 1000, 3) := by decide +kernel
theorem dX9_field_11 : decode cX9_field 11 = .ok (.if_icmp .gt 8, 3) := by decide +kernel
theorem dX9_field_14 : decode cX9_field 14 = .ok (.iload_n 1, 1) := by decide +kernel
theorem dX9_field_15 : decode cX9_field 15 = .ok (.iload_n 2, 1) := by decide +kernel
theorem dX9_field_16 : decode cX9_field 16 = .ok (.if_icmp .le 6, 3) := by decide +kernel
theorem dX9_field_19 : decode cX9_field 19 = .ok (.bipush (-2), 2) := by decide +kernel
theorem dX9_field_21 : decode cX9_field 21 = .ok (.ireturn, 1) := by decide +kernel
theorem dX9_field_22 : decode cX9_field 22 = .ok (.iload_n 3, 1) := by decide +kernel
theorem dX9_field_23 : decode cX9_field 23 = .ok (.ifCond .eq 11, 3) := by decide +kernel
theorem dX9_field_26 : decode cX9_field 26 = .ok (.iload_n 3, 1) := by decide +kernel
theorem dX9_field_27 : decode cX9_field 27 = .ok (.iconst 1, 1) := by decide +kernel
theorem dX9_field_28 : decode cX9_field 28 = .ok (.if_icmp .eq 6, 3) := by decide +kernel
theorem dX9_field_31 : decode cX9_field 31 = .ok (.bipush (-2), 2) := by decide +kernel
theorem dX9_field_33 : decode cX9_field 33 = .ok (.ireturn, 1) := by decide +kernel
theorem dX9_field_34 : decode cX9_field 34 = .ok (.aload_n 0, 1) := by decide +kernel
theorem dX9_field_35 : decode cX9_field 35 = .ok (.getfield 10, 3) := by decide +kernel
theorem dX9_field_38 : decode cX9_field 38 = .ok (.getfield 70, 3) := by decide +kernel
theorem dX9_field_41 : decode cX9_field 41 = .ok (.iload_n 1, 1) := by decide +kernel
theorem dX9_field_42 : decode cX9_field 42 = .ok (.iload_n 2, 1) := by decide +kernel
theorem dX9_field_43 : decode cX9_field 43 = .ok (.iload_n 3, 1) := by decide +kernel
theorem dX9_field_44 : decode cX9_field 44 = .ok (.iconst 1, 1) := by decide +kernel
theorem dX9_field_45 : decode cX9_field 45 = .ok (.if_icmp .ne 7, 3) := by decide +kernel
theorem dX9_field_48 : decode cX9_field 48 = .ok (.iconst 1, 1) := by decide +kernel
theorem dX9_field_49 : decode cX9_field 49 = .ok (.goto 4, 3) := by decide +kernel
theorem dX9_field_52 : decode cX9_field 52 = .ok (.iconst 0, 1) := by decide +kernel
theorem dX9_field_53 : decode cX9_field 53 = .ok (.invokevirtual 74, 3) := by decide +kernel
theorem dX9_field_56 : decode cX9_field 56 = .ok (.istore 4, 2) := by decide +kernel
theorem dX9_field_58 : decode cX9_field 58 = .ok (.aload_n 0, 1) := by decide +kernel
theorem dX9_field_59 : decode cX9_field 59 = .ok (.getfield 10, 3) := by decide +kernel
theorem dX9_field_62 : decode cX9_field 62 = .ok (.invokevirtual 80, 3) := by decide +kernel
theorem dX9_field_65 : decode cX9_field 65 = .ok (.iload 4, 2) := by decide +kernel
theorem dX9_field_67 : decode cX9_field 67 = .ok (.ireturn, 1) := by decide +kernel
theorem dX9_part_0 : decode cX9_part 0 = .ok (.aload_n 0, 1) := by decide +kernel
theorem dX9_part_1 : decode cX9_part 1 = .ok (.iload_n 1, 1) := by decide +kernel
theorem dX9_part_2 : decode cX9_part 2 = .ok (.iload_n 2, 1) := by decide +kernel
theorem dX9_part_3 : decode cX9_part 3 = .ok (.iload_n 3, 1) := by decide +kernel
theorem dX9_part_4 : decode cX9_part 4 = .ok (.iload 4, 2) := by decide +kernel
theorem dX9_part_6 : decode cX9_part 6 = .ok (.invokevirtual 83, 3) := by decide +kernel
theorem dX9_part_9 : decode cX9_part 9 = .ok (.ifCond .ne 5, 3) := by decide +kernel
theorem dX9_part_12 : decode cX9_part 12 = .ok (.iconst (-1), 1) := by decide +kernel
theorem dX9_part_13 : decode cX9_part 13 = .ok (.ireturn, 1) := by decide +kernel
theorem dX9_part_14 : decode cX9_part 14 = .ok (.iload_n 1, 1) := by decide +kernel
theorem dX9_part_15 : decode cX9_part 15 = .ok (.ifCond .lt 9, 3) := by decide +kernel
theorem dX9_part_18 : decode cX9_part 18 = .ok (.iload_n 1, 1) := by decide +kernel
theorem dX9_part_19 : decode cX9_part 19 = .ok (.bipush 11, 2) := by decide +kernel
theorem dX9_part_21 : decode cX9_part 21 = .ok (.if_icmp .le 6, 3) := by decide +kernel
theorem dX9_part_24 : decode cX9_part 24 = .ok (.bipush (-2), 2) := by decide +kernel
theorem dX9_part_26 : decode cX9_part 26 = .ok (.ireturn, 1) := by decide +kernel
theorem dX9_part_27 : decode cX9_part 27 = .ok (.iload_n 1, 1) := by decide +kernel
theorem dX9_part_28 : decode cX9_part 28 = .ok (.ifCond .ne 18, 3) := by decide +kernel
theorem dX9_part_31 : decode cX9_part 31 = .ok (.iload_n 2, 1) := by decide +kernel
theorem dX9_part_32 : decode cX9_part 32 = .ok (.ldc 87, 2) := by decide +kernel
theorem dX9_part_34 : decode cX9_part 34 = .ok (.if_icmp .lt 9, 3) := by decide +kernel
theorem dX9_part_37 : decode cX9_part 37 = .ok (.iload_n 2, 1) := by decide +kernel
theorem dX9_part_38 : decode cX9_part 38 = .ok (.ldc 88, 2) := by decide +kernel
theorem dX9_part_40 : decode cX9_part 40 = .ok (.if_icmp .le 6, 3) := by decide +kernel
theorem dX9_part_43 : decode cX9_part 43 = .ok (.bipush (-2), 2) := by decide +kernel
theorem dX9_part_45 : decode cX9_part 45 = .ok (.ireturn, 1) := by decide +kernel
theorem dX9_part_46 : decode cX9_part 46 = .ok (.aload_n 0, 1) := by decide +kernel
theorem dX9_part_47 : decode cX9_part 47 = .ok (.getfield 10, 3) := by decide +kernel
theorem dX9_part_50 : decode cX9_part 50 = .ok (.getfield 89, 3) := by decide +kernel
theorem dX9_part_53 : decode cX9_part 53 = .ok (.iload_n 1, 1) := by decide +kernel
theorem dX9_part_54 : decode cX9_part 54 = .ok (.iload_n 2, 1) := by decide +kernel
theorem dX9_part_55 : decode cX9_part 55 = .ok (.iload_n 3, 1) := by decide +kernel
theorem dX9_part_56 : decode cX9_part 56 = .ok (.iload 4, 2) := by decide +kernel
theorem dX9_part_58 : decode cX9_part 58 = .ok (.invokevirtual 93, 3) := by decide +kernel
theorem dX9_part_61 : decode cX9_part 61 = .ok (.istore 5, 2) := by decide +kernel
theorem dX9_part_63 : decode cX9_part 63 = .ok (.aload_n 0, 1) := by decide +kernel
theorem dX9_part_64 : decode cX9_part 64 = .ok (.getfield 10, 3) := by decide +kernel
theorem dX9_part_67 : decode cX9_part 67 = .ok (.invokevirtual 80, 3) := by decide +kernel
theorem dX9_part_70 : decode cX9_part 70 = .ok (.iload 5, 2) := by decide +kernel
theorem dX9_part_72 : decode cX9_part 72 = .ok (.ireturn, 1) := by decide +kernel
theorem dX9_rule_0 : decode cX9_rule 0 = .ok (.aload_n 0, 1) := by decide +kernel
theorem dX9_rule_1 : decode cX9_rule 1 = .ok (.getfield 10, 3) := by decide +kernel
theorem dX9_rule_4 : decode cX9_rule 4 = .ok (.getfield 70, 3) := by decide +kernel
theorem dX9_rule_7 : decode cX9_rule 7 = .ok (.iload_n 1, 1) := by decide +kernel
theorem dX9_rule_8 : decode cX9_rule 8 = .ok (.invokevirtual 98, 3) := by decide +kernel
theorem dX9_rule_11 : decode cX9_rule 11 = .ok (.ifCond .eq 23, 3) := by decide +kernel
theorem dX9_rule_14 : decode cX9_rule 14 = .ok (.iload_n 3, 1) := by decide +kernel
theorem dX9_rule_15 : decode cX9_rule 15 = .ok (.bipush (-9), 2) := by decide +kernel
theorem dX9_rule_17 : decode cX9_rule 17 = .ok (.if_icmp .eq 19, 3) := by decide +kernel
theorem dX9_rule_20 : decode cX9_rule 20 = .ok (.aload_n 0, 1) := by decide +kernel
theorem dX9_rule_21 : decode cX9_rule 21 = .ok (.getfield 10, 3) := by decide +kernel
theorem dX9_rule_24 : decode cX9_rule 24 = .ok (.getfield 89, 3) := by decide +kernel
theorem dX9_rule_27 : decode cX9_rule 27 = .ok (.iload_n 3, 1) := by decide +kernel
theorem dX9_rule_28 : decode cX9_rule 28 = .ok (.invokevirtual 102, 3) := by decide +kernel
theorem dX9_rule_31 : decode cX9_rule 31 = .ok (.ifCond .ne 5, 3) := by decide +kernel
theorem dX9_rule_34 : decode cX9_rule 34 = .ok (.iconst (-1), 1) := by decide +kernel
theorem dX9_rule_35 : decode cX9_rule 35 = .ok (.ireturn, 1) := by decide +kernel
theorem dX9_rule_36 : decode cX9_rule 36 = .ok (.iload_n 2, 1) := by decide +kernel
theorem dX9_rule_37 : decode cX9_rule 37 = .ok (.ifCond .lt 28, 3) := by decide +kernel
theorem dX9_rule_40 : decode cX9_rule 40 = .ok (.iload_n 2, 1) := by decide +kernel
theorem dX9_rule_41 : decode cX9_rule 41 = .ok (.iconst 3, 1) := by decide +kernel
theorem dX9_rule_42 : decode cX9_rule 42 = .ok (.if_icmp .gt 23, 3) := by decide +kernel
theorem dX9_rule_45 : decode cX9_rule 45 = .ok (.iload_n 2, 1) := by decide +kernel
theorem dX9_rule_46 : decode cX9_rule 46 = .ok (.iconst 3, 1) := by decide +kernel
theorem dX9_rule_47 : decode cX9_rule 47 = .ok (.if_icmp .ne 21, 3) := by decide +kernel
theorem dX9_rule_50 : decode cX9_rule 50 = .ok (.aload_n 0, 1) := by decide +kernel
theorem dX9_rule_51 : decode cX9_rule 51 = .ok (.getfield 10, 3) := by decide +kernel
theorem dX9_rule_54 : decode cX9_rule 54 = .ok (.getfield 70, 3) := by decide +kernel
theorem dX9_rule_57 : decode cX9_rule 57 = .ok (.getfield 103, 3) := by decide +kernel
theorem dX9_rule_60 : decode cX9_rule 60 = .ok (.iload_n 1, 1) := by decide +kernel
theorem dX9_rule_61 : decode cX9_rule 61 = .ok (.baload, 1) := by decide +kernel
theorem dX9_rule_62 : decode cX9_rule 62 = .ok (.ifCond .ne 6, 3) := by decide +kernel
theorem dX9_rule_65 : decode cX9_rule 65 = .ok (.bipush (-2), 2) := by decide +kernel
theorem dX9_rule_67 : decode cX9_rule 67 = .ok (.ireturn, 1) := by decide +kernel
theorem dX9_rule_68 : decode cX9_rule 68 = .ok (.aload_n 0, 1) := by decide +kernel
theorem dX9_rule_69 : decode cX9_rule 69 = .ok (.getfield 10, 3) := by decide +kernel
theorem dX9_rule_72 : decode cX9_rule 72 = .ok (.iload_n 1, 1) := by decide +kernel
theorem dX9_rule_73 : decode cX9_rule 73 = .ok (.iload_n 2, 1) := by decide +kernel
theorem dX9_rule_74 : decode cX9_rule 74 = .ok (.iload_n 3, 1) := by decide +kernel
theorem dX9_rule_75 : decode cX9_rule 75 = .ok (.invokevirtual 107, 3) := by decide +kernel
theorem dX9_rule_78 : decode cX9_rule 78 = .ok (.istore 4, 2) := by decide +kernel
theorem dX9_rule_80 : decode cX9_rule 80 = .ok (.aload_n 0, 1) := by decide +kernel
theorem dX9_rule_81 : decode cX9_rule 81 = .ok (.getfield 10, 3) := by decide +kernel
theorem dX9_rule_84 : decode cX9_rule 84 = .ok (.getfield 70, 3) := by decide +kernel
theorem dX9_rule_87 : decode cX9_rule 87 = .ok (.iload 4, 2) := by decide +kernel
theorem dX9_rule_89 : decode cX9_rule 89 = .ok (.invokevirtual 111, 3) := by decide +kernel
theorem dX9_rule_92 : decode cX9_rule 92 = .ok (.iload_n 1, 1) := by decide +kernel
theorem dX9_rule_93 : decode cX9_rule 93 = .ok (.invokestatic 115, 3) := by decide +kernel
theorem dX9_rule_96 : decode cX9_rule 96 = .ok (.ifCond .eq 23, 3) := by decide +kernel
theorem dX9_rule_99 : decode cX9_rule 99 = .ok (.aload_n 0, 1) := by decide +kernel
theorem dX9_rule_100 : decode cX9_rule 100 = .ok (.getfield 19, 3) := by decide +kernel
theorem dX9_rule_103 : decode cX9_rule 103 = .ok (.aload_n 0, 1) := by decide +kernel
theorem dX9_rule_104 : decode cX9_rule 104 = .ok (.getfield 10, 3) := by decide +kernel
theorem dX9_rule_107 : decode cX9_rule 107 = .ok (.getfield 70, 3) := by decide +kernel
theorem dX9_rule_110 : decode cX9_rule 110 = .ok (.iload_n 1, 1) := by decide +kernel
theorem dX9_rule_111 : decode cX9_rule 111 = .ok (.iload 4, 2) := by decide +kernel
theorem dX9_rule_113 : decode cX9_rule 113 = .ok (.invokevirtual 119, 3) := by decide +kernel
theorem dX9_rule_116 : decode cX9_rule 116 = .ok (.bipush (-3), 2) := by decide +kernel
theorem dX9_rule_118 : decode cX9_rule 118 = .ok (.ireturn, 1) := by decide +kernel
theorem dX9_rule_119 : decode cX9_rule 119 = .ok (.aload_n 0, 1) := by decide +kernel
theorem dX9_rule_120 : decode cX9_rule 120 = .ok (.getfield 10, 3) := by decide +kernel
theorem dX9_rule_123 : decode cX9_rule 123 = .ok (.iload_n 1, 1) := by decide +kernel
theorem dX9_rule_124 : decode cX9_rule 124 = .ok (.iload_n 2, 1) := by decide +kernel
theorem dX9_rule_125 : decode cX9_rule 125 = .ok (.iload_n 3, 1) := by decide +kernel
theorem dX9_rule_126 : decode cX9_rule 126 = .ok (.invokevirtual 123, 3) := by decide +kernel
theorem dX9_rule_129 : decode cX9_rule 129 = .ok (.iconst 1, 1) := by decide +kernel
theorem dX9_rule_130 : decode cX9_rule 130 = .ok (.ireturn, 1) := by decide +kernel
theorem dX9_ring_0 : decode cX9_ring 0 = .ok (.iload_n 1, 1) := by decide +kernel
theorem dX9_ring_1 : decode cX9_ring 1 = .ok (.ifCond .lt 26, 3) := by decide +kernel
theorem dX9_ring_4 : decode cX9_ring 4 = .ok (.iload_n 1, 1) := by decide +kernel
theorem dX9_ring_5 : decode cX9_ring 5 = .ok (.aload_n 0, 1) := by decide +kernel
theorem dX9_ring_6 : decode cX9_ring 6 = .ok (.getfield 19, 3) := by decide +kernel
theorem dX9_ring_9 : decode cX9_ring 9 = .ok (.getfield 127, 3) := by decide +kernel
theorem dX9_ring_12 : decode cX9_ring 12 = .ok (.if_icmp .ge 15, 3) := by decide +kernel
theorem dX9_ring_15 : decode cX9_ring 15 = .ok (.aload_n 0, 1) := by decide +kernel
theorem dX9_ring_16 : decode cX9_ring 16 = .ok (.getfield 19, 3) := by decide +kernel
theorem dX9_ring_19 : decode cX9_ring 19 = .ok (.getfield 131, 3) := by decide +kernel
theorem dX9_ring_22 : decode cX9_ring 22 = .ok (.iload_n 1, 1) := by decide +kernel
theorem dX9_ring_23 : decode cX9_ring 23 = .ok (.iaload, 1) := by decide +kernel
theorem dX9_ring_24 : decode cX9_ring 24 = .ok (.goto 4, 3) := by decide +kernel
theorem dX9_ring_27 : decode cX9_ring 27 = .ok (.iconst (-1), 1) := by decide +kernel
theorem dX9_ring_28 : decode cX9_ring 28 = .ok (.ireturn, 1) := by decide +kernel
theorem dX9_about_0 : decode cX9_about 0 = .ok (.aload_n 0, 1) := by decide +kernel
theorem dX9_about_1 : decode cX9_about 1 = .ok (.getfield 10, 3) := by decide +kernel
theorem dX9_about_4 : decode cX9_about 4 = .ok (.getfield 70, 3) := by decide +kernel
theorem dX9_about_7 : decode cX9_about 7 = .ok (.iload_n 1, 1) := by decide +kernel
theorem dX9_about_8 : decode cX9_about 8 = .ok (.invokevirtual 98, 3) := by decide +kernel
theorem dX9_about_11 : decode cX9_about 11 = .ok (.ifCond .ne 5, 3) := by decide +kernel
theorem dX9_about_14 : decode cX9_about 14 = .ok (.iconst (-1), 1) := by decide +kernel
theorem dX9_about_15 : decode cX9_about 15 = .ok (.ireturn, 1) := by decide +kernel
theorem dX9_about_16 : decode cX9_about 16 = .ok (.iload_n 2, 1) := by decide +kernel
theorem dX9_about_17 : decode cX9_about 17 = .ok (.tableswitch 143 0 8 #[51, 64, 77, 98, 98, 98, 98, 115, 131], 51) := by decide +kernel
theorem dX9_about_68 : decode cX9_about 68 = .ok (.aload_n 0, 1) := by decide +kernel
theorem dX9_about_69 : decode cX9_about 69 = .ok (.getfield 10, 3) := by decide +kernel
theorem dX9_about_72 : decode cX9_about 72 = .ok (.getfield 70, 3) := by decide +kernel
theorem dX9_about_75 : decode cX9_about 75 = .ok (.getfield 135, 3) := by decide +kernel
theorem dX9_about_78 : decode cX9_about 78 = .ok (.iload_n 1, 1) := by decide +kernel
theorem dX9_about_79 : decode cX9_about 79 = .ok (.iaload, 1) := by decide +kernel
theorem dX9_about_80 : decode cX9_about 80 = .ok (.ireturn, 1) := by decide +kernel
theorem dX9_about_81 : decode cX9_about 81 = .ok (.aload_n 0, 1) := by decide +kernel
theorem dX9_about_82 : decode cX9_about 82 = .ok (.getfield 10, 3) := by decide +kernel
theorem dX9_about_85 : decode cX9_about 85 = .ok (.getfield 70, 3) := by decide +kernel
theorem dX9_about_88 : decode cX9_about 88 = .ok (.getfield 138, 3) := by decide +kernel
theorem dX9_about_91 : decode cX9_about 91 = .ok (.iload_n 1, 1) := by decide +kernel
theorem dX9_about_92 : decode cX9_about 92 = .ok (.iaload, 1) := by decide +kernel
theorem dX9_about_93 : decode cX9_about 93 = .ok (.ireturn, 1) := by decide +kernel
theorem dX9_about_94 : decode cX9_about 94 = .ok (.aload_n 0, 1) := by decide +kernel
theorem dX9_about_95 : decode cX9_about 95 = .ok (.getfield 10, 3) := by decide +kernel
theorem dX9_about_98 : decode cX9_about 98 = .ok (.getfield 70, 3) := by decide +kernel
theorem dX9_about_101 : decode cX9_about 101 = .ok (.getfield 103, 3) := by decide +kernel
theorem dX9_about_104 : decode cX9_about 104 = .ok (.iload_n 1, 1) := by decide +kernel
theorem dX9_about_105 : decode cX9_about 105 = .ok (.baload, 1) := by decide +kernel
theorem dX9_about_106 : decode cX9_about 106 = .ok (.ifCond .eq 7, 3) := by decide +kernel
theorem dX9_about_109 : decode cX9_about 109 = .ok (.iconst 1, 1) := by decide +kernel
theorem dX9_about_110 : decode cX9_about 110 = .ok (.goto 4, 3) := by decide +kernel
theorem dX9_about_113 : decode cX9_about 113 = .ok (.iconst 0, 1) := by decide +kernel
theorem dX9_about_114 : decode cX9_about 114 = .ok (.ireturn, 1) := by decide +kernel
theorem dX9_about_115 : decode cX9_about 115 = .ok (.aload_n 0, 1) := by decide +kernel
theorem dX9_about_116 : decode cX9_about 116 = .ok (.getfield 10, 3) := by decide +kernel
theorem dX9_about_119 : decode cX9_about 119 = .ok (.getfield 70, 3) := by decide +kernel
theorem dX9_about_122 : decode cX9_about 122 = .ok (.getfield 141, 3) := by decide +kernel
theorem dX9_about_125 : decode cX9_about 125 = .ok (.iload_n 1, 1) := by decide +kernel
theorem dX9_about_126 : decode cX9_about 126 = .ok (.aaload, 1) := by decide +kernel
theorem dX9_about_127 : decode cX9_about 127 = .ok (.iload_n 2, 1) := by decide +kernel
theorem dX9_about_128 : decode cX9_about 128 = .ok (.iconst 3, 1) := by decide +kernel
theorem dX9_about_129 : decode cX9_about 129 = .ok (.isub, 1) := by decide +kernel
theorem dX9_about_130 : decode cX9_about 130 = .ok (.iaload, 1) := by decide +kernel
theorem dX9_about_131 : decode cX9_about 131 = .ok (.ireturn, 1) := by decide +kernel
theorem dX9_about_132 : decode cX9_about 132 = .ok (.aload_n 0, 1) := by decide +kernel
theorem dX9_about_133 : decode cX9_about 133 = .ok (.getfield 10, 3) := by decide +kernel
theorem dX9_about_136 : decode cX9_about 136 = .ok (.getfield 70, 3) := by decide +kernel
theorem dX9_about_139 : decode cX9_about 139 = .ok (.getfield 144, 3) := by decide +kernel
theorem dX9_about_142 : decode cX9_about 142 = .ok (.iload_n 1, 1) := by decide +kernel
theorem dX9_about_143 : decode cX9_about 143 = .ok (.iaload, 1) := by decide +kernel
theorem dX9_about_144 : decode cX9_about 144 = .ok (.invokestatic 147, 3) := by decide +kernel
theorem dX9_about_147 : decode cX9_about 147 = .ok (.ireturn, 1) := by decide +kernel
theorem dX9_about_148 : decode cX9_about 148 = .ok (.aload_n 0, 1) := by decide +kernel
theorem dX9_about_149 : decode cX9_about 149 = .ok (.getfield 10, 3) := by decide +kernel
theorem dX9_about_152 : decode cX9_about 152 = .ok (.getfield 70, 3) := by decide +kernel
theorem dX9_about_155 : decode cX9_about 155 = .ok (.iload_n 1, 1) := by decide +kernel
theorem dX9_about_156 : decode cX9_about 156 = .ok (.invokevirtual 152, 3) := by decide +kernel
theorem dX9_about_159 : decode cX9_about 159 = .ok (.ireturn, 1) := by decide +kernel
theorem dX9_about_160 : decode cX9_about 160 = .ok (.bipush (-2), 2) := by decide +kernel
theorem dX9_about_162 : decode cX9_about 162 = .ok (.ireturn, 1) := by decide +kernel
theorem dX9_hangs_0 : decode cX9_hangs 0 = .ok (.aload_n 0, 1) := by decide +kernel
theorem dX9_hangs_1 : decode cX9_hangs 1 = .ok (.getfield 10, 3) := by decide +kernel
theorem dX9_hangs_4 : decode cX9_hangs 4 = .ok (.getfield 70, 3) := by decide +kernel
theorem dX9_hangs_7 : decode cX9_hangs 7 = .ok (.iload_n 1, 1) := by decide +kernel
theorem dX9_hangs_8 : decode cX9_hangs 8 = .ok (.invokevirtual 98, 3) := by decide +kernel
theorem dX9_hangs_11 : decode cX9_hangs 11 = .ok (.ifCond .eq 17, 3) := by decide +kernel
theorem dX9_hangs_14 : decode cX9_hangs 14 = .ok (.aload_n 0, 1) := by decide +kernel
theorem dX9_hangs_15 : decode cX9_hangs 15 = .ok (.getfield 10, 3) := by decide +kernel
theorem dX9_hangs_18 : decode cX9_hangs 18 = .ok (.getfield 70, 3) := by decide +kernel
theorem dX9_hangs_21 : decode cX9_hangs 21 = .ok (.iload_n 2, 1) := by decide +kernel
theorem dX9_hangs_22 : decode cX9_hangs 22 = .ok (.invokevirtual 98, 3) := by decide +kernel
theorem dX9_hangs_25 : decode cX9_hangs 25 = .ok (.ifCond .ne 5, 3) := by decide +kernel
theorem dX9_hangs_28 : decode cX9_hangs 28 = .ok (.iconst (-1), 1) := by decide +kernel
theorem dX9_hangs_29 : decode cX9_hangs 29 = .ok (.ireturn, 1) := by decide +kernel
theorem dX9_hangs_30 : decode cX9_hangs 30 = .ok (.aload_n 0, 1) := by decide +kernel
theorem dX9_hangs_31 : decode cX9_hangs 31 = .ok (.getfield 10, 3) := by decide +kernel
theorem dX9_hangs_34 : decode cX9_hangs 34 = .ok (.getfield 70, 3) := by decide +kernel
theorem dX9_hangs_37 : decode cX9_hangs 37 = .ok (.getfield 144, 3) := by decide +kernel
theorem dX9_hangs_40 : decode cX9_hangs 40 = .ok (.iload_n 1, 1) := by decide +kernel
theorem dX9_hangs_41 : decode cX9_hangs 41 = .ok (.iaload, 1) := by decide +kernel
theorem dX9_hangs_42 : decode cX9_hangs 42 = .ok (.iload_n 2, 1) := by decide +kernel
theorem dX9_hangs_43 : decode cX9_hangs 43 = .ok (.invokestatic 115, 3) := by decide +kernel
theorem dX9_hangs_46 : decode cX9_hangs 46 = .ok (.invokestatic 155, 3) := by decide +kernel
theorem dX9_hangs_49 : decode cX9_hangs 49 = .ok (.ireturn, 1) := by decide +kernel
theorem dX9_answer_0 : decode cX9_answer 0 = .ok (.aload_n 0, 1) := by decide +kernel
theorem dX9_answer_1 : decode cX9_answer 1 = .ok (.iload_n 1, 1) := by decide +kernel
theorem dX9_answer_2 : decode cX9_answer 2 = .ok (.iload_n 2, 1) := by decide +kernel
theorem dX9_answer_3 : decode cX9_answer 3 = .ok (.invokevirtual 159, 3) := by decide +kernel
theorem dX9_answer_6 : decode cX9_answer 6 = .ok (.ifCond .ne 5, 3) := by decide +kernel
theorem dX9_answer_9 : decode cX9_answer 9 = .ok (.iconst (-1), 1) := by decide +kernel
theorem dX9_answer_10 : decode cX9_answer 10 = .ok (.ireturn, 1) := by decide +kernel
theorem dX9_answer_11 : decode cX9_answer 11 = .ok (.aload_n 0, 1) := by decide +kernel
theorem dX9_answer_12 : decode cX9_answer 12 = .ok (.getfield 10, 3) := by decide +kernel
theorem dX9_answer_15 : decode cX9_answer 15 = .ok (.getfield 70, 3) := by decide +kernel
theorem dX9_answer_18 : decode cX9_answer 18 = .ok (.getfield 103, 3) := by decide +kernel
theorem dX9_answer_21 : decode cX9_answer 21 = .ok (.iload_n 2, 1) := by decide +kernel
theorem dX9_answer_22 : decode cX9_answer 22 = .ok (.baload, 1) := by decide +kernel
theorem dX9_answer_23 : decode cX9_answer 23 = .ok (.ifCond .eq 6, 3) := by decide +kernel
theorem dX9_answer_26 : decode cX9_answer 26 = .ok (.bipush (-3), 2) := by decide +kernel
theorem dX9_answer_28 : decode cX9_answer 28 = .ok (.ireturn, 1) := by decide +kernel
theorem dX9_answer_29 : decode cX9_answer 29 = .ok (.aload_n 0, 1) := by decide +kernel
theorem dX9_answer_30 : decode cX9_answer 30 = .ok (.getfield 10, 3) := by decide +kernel
theorem dX9_answer_33 : decode cX9_answer 33 = .ok (.getfield 70, 3) := by decide +kernel
theorem dX9_answer_36 : decode cX9_answer 36 = .ok (.iload_n 2, 1) := by decide +kernel
theorem dX9_answer_37 : decode cX9_answer 37 = .ok (.iload_n 3, 1) := by decide +kernel
theorem dX9_answer_38 : decode cX9_answer 38 = .ok (.invokevirtual 162, 3) := by decide +kernel
theorem dX9_answer_41 : decode cX9_answer 41 = .ok (.ifCond .ne 6, 3) := by decide +kernel
theorem dX9_answer_44 : decode cX9_answer 44 = .ok (.bipush (-2), 2) := by decide +kernel
theorem dX9_answer_46 : decode cX9_answer 46 = .ok (.ireturn, 1) := by decide +kernel
theorem dX9_answer_47 : decode cX9_answer 47 = .ok (.aload_n 0, 1) := by decide +kernel
theorem dX9_answer_48 : decode cX9_answer 48 = .ok (.iload_n 1, 1) := by decide +kernel
theorem dX9_answer_49 : decode cX9_answer 49 = .ok (.invokevirtual 165, 3) := by decide +kernel
theorem dX9_answer_52 : decode cX9_answer 52 = .ok (.iload_n 2, 1) := by decide +kernel
theorem dX9_answer_53 : decode cX9_answer 53 = .ok (.invokestatic 115, 3) := by decide +kernel
theorem dX9_answer_56 : decode cX9_answer 56 = .ok (.ifCond .eq 6, 3) := by decide +kernel
theorem dX9_answer_59 : decode cX9_answer 59 = .ok (.bipush (-3), 2) := by decide +kernel
theorem dX9_answer_61 : decode cX9_answer 61 = .ok (.ireturn, 1) := by decide +kernel
theorem dX9_answer_62 : decode cX9_answer 62 = .ok (.aload_n 0, 1) := by decide +kernel
theorem dX9_answer_63 : decode cX9_answer 63 = .ok (.getfield 25, 3) := by decide +kernel
theorem dX9_answer_66 : decode cX9_answer 66 = .ok (.iload_n 1, 1) := by decide +kernel
theorem dX9_answer_67 : decode cX9_answer 67 = .ok (.aaload, 1) := by decide +kernel
theorem dX9_answer_68 : decode cX9_answer 68 = .ok (.iload_n 2, 1) := by decide +kernel
theorem dX9_answer_69 : decode cX9_answer 69 = .ok (.iload_n 3, 1) := by decide +kernel
theorem dX9_answer_70 : decode cX9_answer 70 = .ok (.iastore, 1) := by decide +kernel
theorem dX9_answer_71 : decode cX9_answer 71 = .ok (.aload_n 0, 1) := by decide +kernel
theorem dX9_answer_72 : decode cX9_answer 72 = .ok (.getfield 10, 3) := by decide +kernel
theorem dX9_answer_75 : decode cX9_answer 75 = .ok (.getfield 70, 3) := by decide +kernel
theorem dX9_answer_78 : decode cX9_answer 78 = .ok (.iload_n 2, 1) := by decide +kernel
theorem dX9_answer_79 : decode cX9_answer 79 = .ok (.invokevirtual 152, 3) := by decide +kernel
theorem dX9_answer_82 : decode cX9_answer 82 = .ok (.ireturn, 1) := by decide +kernel
theorem dX9_clear_0 : decode cX9_clear 0 = .ok (.aload_n 0, 1) := by decide +kernel
theorem dX9_clear_1 : decode cX9_clear 1 = .ok (.iload_n 1, 1) := by decide +kernel
theorem dX9_clear_2 : decode cX9_clear 2 = .ok (.iload_n 2, 1) := by decide +kernel
theorem dX9_clear_3 : decode cX9_clear 3 = .ok (.invokevirtual 159, 3) := by decide +kernel
theorem dX9_clear_6 : decode cX9_clear 6 = .ok (.ifCond .ne 5, 3) := by decide +kernel
theorem dX9_clear_9 : decode cX9_clear 9 = .ok (.iconst (-1), 1) := by decide +kernel
theorem dX9_clear_10 : decode cX9_clear 10 = .ok (.ireturn, 1) := by decide +kernel
theorem dX9_clear_11 : decode cX9_clear 11 = .ok (.aload_n 0, 1) := by decide +kernel
theorem dX9_clear_12 : decode cX9_clear 12 = .ok (.getfield 10, 3) := by decide +kernel
theorem dX9_clear_15 : decode cX9_clear 15 = .ok (.getfield 70, 3) := by decide +kernel
theorem dX9_clear_18 : decode cX9_clear 18 = .ok (.getfield 103, 3) := by decide +kernel
theorem dX9_clear_21 : decode cX9_clear 21 = .ok (.iload_n 2, 1) := by decide +kernel
theorem dX9_clear_22 : decode cX9_clear 22 = .ok (.baload, 1) := by decide +kernel
theorem dX9_clear_23 : decode cX9_clear 23 = .ok (.ifCond .ne 15, 3) := by decide +kernel
theorem dX9_clear_26 : decode cX9_clear 26 = .ok (.aload_n 0, 1) := by decide +kernel
theorem dX9_clear_27 : decode cX9_clear 27 = .ok (.iload_n 1, 1) := by decide +kernel
theorem dX9_clear_28 : decode cX9_clear 28 = .ok (.invokevirtual 165, 3) := by decide +kernel
theorem dX9_clear_31 : decode cX9_clear 31 = .ok (.iload_n 2, 1) := by decide +kernel
theorem dX9_clear_32 : decode cX9_clear 32 = .ok (.invokestatic 115, 3) := by decide +kernel
theorem dX9_clear_35 : decode cX9_clear 35 = .ok (.ifCond .eq 6, 3) := by decide +kernel
theorem dX9_clear_38 : decode cX9_clear 38 = .ok (.bipush (-3), 2) := by decide +kernel
theorem dX9_clear_40 : decode cX9_clear 40 = .ok (.ireturn, 1) := by decide +kernel
theorem dX9_clear_41 : decode cX9_clear 41 = .ok (.aload_n 0, 1) := by decide +kernel
theorem dX9_clear_42 : decode cX9_clear 42 = .ok (.getfield 25, 3) := by decide +kernel
theorem dX9_clear_45 : decode cX9_clear 45 = .ok (.iload_n 1, 1) := by decide +kernel
theorem dX9_clear_46 : decode cX9_clear 46 = .ok (.aaload, 1) := by decide +kernel
theorem dX9_clear_47 : decode cX9_clear 47 = .ok (.iload_n 2, 1) := by decide +kernel
theorem dX9_clear_48 : decode cX9_clear 48 = .ok (.iaload, 1) := by decide +kernel
theorem dX9_clear_49 : decode cX9_clear 49 = .ok (.ldc 28, 2) := by decide +kernel
theorem dX9_clear_51 : decode cX9_clear 51 = .ok (.if_icmp .eq 7, 3) := by decide +kernel
theorem dX9_clear_54 : decode cX9_clear 54 = .ok (.iconst 1, 1) := by decide +kernel
theorem dX9_clear_55 : decode cX9_clear 55 = .ok (.goto 4, 3) := by decide +kernel
theorem dX9_clear_58 : decode cX9_clear 58 = .ok (.iconst 0, 1) := by decide +kernel
theorem dX9_clear_59 : decode cX9_clear 59 = .ok (.invokestatic 155, 3) := by decide +kernel
theorem dX9_clear_62 : decode cX9_clear 62 = .ok (.istore_n 3, 1) := by decide +kernel
theorem dX9_clear_63 : decode cX9_clear 63 = .ok (.aload_n 0, 1) := by decide +kernel
theorem dX9_clear_64 : decode cX9_clear 64 = .ok (.getfield 25, 3) := by decide +kernel
theorem dX9_clear_67 : decode cX9_clear 67 = .ok (.iload_n 1, 1) := by decide +kernel
theorem dX9_clear_68 : decode cX9_clear 68 = .ok (.aaload, 1) := by decide +kernel
theorem dX9_clear_69 : decode cX9_clear 69 = .ok (.iload_n 2, 1) := by decide +kernel
theorem dX9_clear_70 : decode cX9_clear 70 = .ok (.ldc 28, 2) := by decide +kernel
theorem dX9_clear_72 : decode cX9_clear 72 = .ok (.iastore, 1) := by decide +kernel
theorem dX9_clear_73 : decode cX9_clear 73 = .ok (.iload_n 3, 1) := by decide +kernel
theorem dX9_clear_74 : decode cX9_clear 74 = .ok (.ireturn, 1) := by decide +kernel
theorem dX9_kept_0 : decode cX9_kept 0 = .ok (.aload_n 0, 1) := by decide +kernel
theorem dX9_kept_1 : decode cX9_kept 1 = .ok (.iload_n 1, 1) := by decide +kernel
theorem dX9_kept_2 : decode cX9_kept 2 = .ok (.iload_n 2, 1) := by decide +kernel
theorem dX9_kept_3 : decode cX9_kept 3 = .ok (.invokevirtual 159, 3) := by decide +kernel
theorem dX9_kept_6 : decode cX9_kept 6 = .ok (.ifCond .ne 6, 3) := by decide +kernel
theorem dX9_kept_9 : decode cX9_kept 9 = .ok (.ldc 28, 2) := by decide +kernel
theorem dX9_kept_11 : decode cX9_kept 11 = .ok (.ireturn, 1) := by decide +kernel
theorem dX9_kept_12 : decode cX9_kept 12 = .ok (.aload_n 0, 1) := by decide +kernel
theorem dX9_kept_13 : decode cX9_kept 13 = .ok (.getfield 10, 3) := by decide +kernel
theorem dX9_kept_16 : decode cX9_kept 16 = .ok (.getfield 70, 3) := by decide +kernel
theorem dX9_kept_19 : decode cX9_kept 19 = .ok (.getfield 103, 3) := by decide +kernel
theorem dX9_kept_22 : decode cX9_kept 22 = .ok (.iload_n 2, 1) := by decide +kernel
theorem dX9_kept_23 : decode cX9_kept 23 = .ok (.baload, 1) := by decide +kernel
theorem dX9_kept_24 : decode cX9_kept 24 = .ok (.ifCond .ne 12, 3) := by decide +kernel
theorem dX9_kept_27 : decode cX9_kept 27 = .ok (.aload_n 0, 1) := by decide +kernel
theorem dX9_kept_28 : decode cX9_kept 28 = .ok (.getfield 25, 3) := by decide +kernel
theorem dX9_kept_31 : decode cX9_kept 31 = .ok (.iload_n 1, 1) := by decide +kernel
theorem dX9_kept_32 : decode cX9_kept 32 = .ok (.aaload, 1) := by decide +kernel
theorem dX9_kept_33 : decode cX9_kept 33 = .ok (.iload_n 2, 1) := by decide +kernel
theorem dX9_kept_34 : decode cX9_kept 34 = .ok (.iaload, 1) := by decide +kernel
theorem dX9_kept_35 : decode cX9_kept 35 = .ok (.ireturn, 1) := by decide +kernel
theorem dX9_kept_36 : decode cX9_kept 36 = .ok (.aload_n 0, 1) := by decide +kernel
theorem dX9_kept_37 : decode cX9_kept 37 = .ok (.getfield 38, 3) := by decide +kernel
theorem dX9_kept_40 : decode cX9_kept 40 = .ok (.aload_n 0, 1) := by decide +kernel
theorem dX9_kept_41 : decode cX9_kept 41 = .ok (.getfield 10, 3) := by decide +kernel
theorem dX9_kept_44 : decode cX9_kept 44 = .ok (.aload_n 0, 1) := by decide +kernel
theorem dX9_kept_45 : decode cX9_kept 45 = .ok (.getfield 25, 3) := by decide +kernel
theorem dX9_kept_48 : decode cX9_kept 48 = .ok (.iload_n 1, 1) := by decide +kernel
theorem dX9_kept_49 : decode cX9_kept 49 = .ok (.aaload, 1) := by decide +kernel
theorem dX9_kept_50 : decode cX9_kept 50 = .ok (.invokevirtual 168, 3) := by decide +kernel
theorem dX9_kept_53 : decode cX9_kept 53 = .ok (.aload_n 0, 1) := by decide +kernel
theorem dX9_kept_54 : decode cX9_kept 54 = .ok (.getfield 38, 3) := by decide +kernel
theorem dX9_kept_57 : decode cX9_kept 57 = .ok (.aload_n 0, 1) := by decide +kernel
theorem dX9_kept_58 : decode cX9_kept 58 = .ok (.getfield 10, 3) := by decide +kernel
theorem dX9_kept_61 : decode cX9_kept 61 = .ok (.getfield 70, 3) := by decide +kernel
theorem dX9_kept_64 : decode cX9_kept 64 = .ok (.getfield 141, 3) := by decide +kernel
theorem dX9_kept_67 : decode cX9_kept 67 = .ok (.iload_n 2, 1) := by decide +kernel
theorem dX9_kept_68 : decode cX9_kept 68 = .ok (.aaload, 1) := by decide +kernel
theorem dX9_kept_69 : decode cX9_kept 69 = .ok (.iconst 3, 1) := by decide +kernel
theorem dX9_kept_70 : decode cX9_kept 70 = .ok (.iaload, 1) := by decide +kernel
theorem dX9_kept_71 : decode cX9_kept 71 = .ok (.invokevirtual 172, 3) := by decide +kernel
theorem dX9_kept_74 : decode cX9_kept 74 = .ok (.ireturn, 1) := by decide +kernel
theorem dX9_counts_0 : decode cX9_counts 0 = .ok (.aload_n 0, 1) := by decide +kernel
theorem dX9_counts_1 : decode cX9_counts 1 = .ok (.iload_n 1, 1) := by decide +kernel
theorem dX9_counts_2 : decode cX9_counts 2 = .ok (.iload_n 2, 1) := by decide +kernel
theorem dX9_counts_3 : decode cX9_counts 3 = .ok (.invokevirtual 159, 3) := by decide +kernel
theorem dX9_counts_6 : decode cX9_counts 6 = .ok (.ifCond .ne 6, 3) := by decide +kernel
theorem dX9_counts_9 : decode cX9_counts 9 = .ok (.ldc 28, 2) := by decide +kernel
theorem dX9_counts_11 : decode cX9_counts 11 = .ok (.ireturn, 1) := by decide +kernel
theorem dX9_counts_12 : decode cX9_counts 12 = .ok (.aload_n 0, 1) := by decide +kernel
theorem dX9_counts_13 : decode cX9_counts 13 = .ok (.getfield 38, 3) := by decide +kernel
theorem dX9_counts_16 : decode cX9_counts 16 = .ok (.aload_n 0, 1) := by decide +kernel
theorem dX9_counts_17 : decode cX9_counts 17 = .ok (.getfield 10, 3) := by decide +kernel
theorem dX9_counts_20 : decode cX9_counts 20 = .ok (.aload_n 0, 1) := by decide +kernel
theorem dX9_counts_21 : decode cX9_counts 21 = .ok (.getfield 25, 3) := by decide +kernel
theorem dX9_counts_24 : decode cX9_counts 24 = .ok (.iload_n 1, 1) := by decide +kernel
theorem dX9_counts_25 : decode cX9_counts 25 = .ok (.aaload, 1) := by decide +kernel
theorem dX9_counts_26 : decode cX9_counts 26 = .ok (.invokevirtual 168, 3) := by decide +kernel
theorem dX9_counts_29 : decode cX9_counts 29 = .ok (.aload_n 0, 1) := by decide +kernel
theorem dX9_counts_30 : decode cX9_counts 30 = .ok (.getfield 38, 3) := by decide +kernel
theorem dX9_counts_33 : decode cX9_counts 33 = .ok (.getfield 175, 3) := by decide +kernel
theorem dX9_counts_36 : decode cX9_counts 36 = .ok (.iload_n 2, 1) := by decide +kernel
theorem dX9_counts_37 : decode cX9_counts 37 = .ok (.iaload, 1) := by decide +kernel
theorem dX9_counts_38 : decode cX9_counts 38 = .ok (.ireturn, 1) := by decide +kernel
theorem dX9_status_0 : decode cX9_status 0 = .ok (.aload_n 0, 1) := by decide +kernel
theorem dX9_status_1 : decode cX9_status 1 = .ok (.iload_n 1, 1) := by decide +kernel
theorem dX9_status_2 : decode cX9_status 2 = .ok (.iload_n 2, 1) := by decide +kernel
theorem dX9_status_3 : decode cX9_status 3 = .ok (.invokevirtual 159, 3) := by decide +kernel
theorem dX9_status_6 : decode cX9_status 6 = .ok (.ifCond .ne 5, 3) := by decide +kernel
theorem dX9_status_9 : decode cX9_status 9 = .ok (.iconst (-1), 1) := by decide +kernel
theorem dX9_status_10 : decode cX9_status 10 = .ok (.ireturn, 1) := by decide +kernel
theorem dX9_status_11 : decode cX9_status 11 = .ok (.aload_n 0, 1) := by decide +kernel
theorem dX9_status_12 : decode cX9_status 12 = .ok (.getfield 38, 3) := by decide +kernel
theorem dX9_status_15 : decode cX9_status 15 = .ok (.aload_n 0, 1) := by decide +kernel
theorem dX9_status_16 : decode cX9_status 16 = .ok (.getfield 10, 3) := by decide +kernel
theorem dX9_status_19 : decode cX9_status 19 = .ok (.aload_n 0, 1) := by decide +kernel
theorem dX9_status_20 : decode cX9_status 20 = .ok (.getfield 25, 3) := by decide +kernel
theorem dX9_status_23 : decode cX9_status 23 = .ok (.iload_n 1, 1) := by decide +kernel
theorem dX9_status_24 : decode cX9_status 24 = .ok (.aaload, 1) := by decide +kernel
theorem dX9_status_25 : decode cX9_status 25 = .ok (.invokevirtual 168, 3) := by decide +kernel
theorem dX9_status_28 : decode cX9_status 28 = .ok (.aload_n 0, 1) := by decide +kernel
theorem dX9_status_29 : decode cX9_status 29 = .ok (.getfield 38, 3) := by decide +kernel
theorem dX9_status_32 : decode cX9_status 32 = .ok (.aload_n 0, 1) := by decide +kernel
theorem dX9_status_33 : decode cX9_status 33 = .ok (.getfield 10, 3) := by decide +kernel
theorem dX9_status_36 : decode cX9_status 36 = .ok (.getfield 70, 3) := by decide +kernel
theorem dX9_status_39 : decode cX9_status 39 = .ok (.iload_n 2, 1) := by decide +kernel
theorem dX9_status_40 : decode cX9_status 40 = .ok (.invokevirtual 178, 3) := by decide +kernel
theorem dX9_status_43 : decode cX9_status 43 = .ok (.ireturn, 1) := by decide +kernel
theorem dX9_done_0 : decode cX9_done 0 = .ok (.aload_n 0, 1) := by decide +kernel
theorem dX9_done_1 : decode cX9_done 1 = .ok (.iload_n 1, 1) := by decide +kernel
theorem dX9_done_2 : decode cX9_done 2 = .ok (.invokevirtual 182, 3) := by decide +kernel
theorem dX9_done_5 : decode cX9_done 5 = .ok (.ifCond .ne 5, 3) := by decide +kernel
theorem dX9_done_8 : decode cX9_done 8 = .ok (.iconst (-1), 1) := by decide +kernel
theorem dX9_done_9 : decode cX9_done 9 = .ok (.ireturn, 1) := by decide +kernel
theorem dX9_done_10 : decode cX9_done 10 = .ok (.aload_n 0, 1) := by decide +kernel
theorem dX9_done_11 : decode cX9_done 11 = .ok (.getfield 38, 3) := by decide +kernel
theorem dX9_done_14 : decode cX9_done 14 = .ok (.aload_n 0, 1) := by decide +kernel
theorem dX9_done_15 : decode cX9_done 15 = .ok (.getfield 10, 3) := by decide +kernel
theorem dX9_done_18 : decode cX9_done 18 = .ok (.aload_n 0, 1) := by decide +kernel
theorem dX9_done_19 : decode cX9_done 19 = .ok (.getfield 25, 3) := by decide +kernel
theorem dX9_done_22 : decode cX9_done 22 = .ok (.iload_n 1, 1) := by decide +kernel
theorem dX9_done_23 : decode cX9_done 23 = .ok (.aaload, 1) := by decide +kernel
theorem dX9_done_24 : decode cX9_done 24 = .ok (.invokevirtual 168, 3) := by decide +kernel
theorem dX9_done_27 : decode cX9_done 27 = .ok (.iconst 0, 1) := by decide +kernel
theorem dX9_done_28 : decode cX9_done 28 = .ok (.istore_n 2, 1) := by decide +kernel
theorem dX9_done_29 : decode cX9_done 29 = .ok (.iload_n 2, 1) := by decide +kernel
theorem dX9_done_30 : decode cX9_done 30 = .ok (.aload_n 0, 1) := by decide +kernel
theorem dX9_done_31 : decode cX9_done 31 = .ok (.getfield 10, 3) := by decide +kernel
theorem dX9_done_34 : decode cX9_done 34 = .ok (.getfield 70, 3) := by decide +kernel
theorem dX9_done_37 : decode cX9_done 37 = .ok (.getfield 185, 3) := by decide +kernel
theorem dX9_done_40 : decode cX9_done 40 = .ok (.if_icmp .ge 37, 3) := by decide +kernel
theorem dX9_done_43 : decode cX9_done 43 = .ok (.aload_n 0, 1) := by decide +kernel
theorem dX9_done_44 : decode cX9_done 44 = .ok (.getfield 38, 3) := by decide +kernel
theorem dX9_done_47 : decode cX9_done 47 = .ok (.aload_n 0, 1) := by decide +kernel
theorem dX9_done_48 : decode cX9_done 48 = .ok (.getfield 10, 3) := by decide +kernel
theorem dX9_done_51 : decode cX9_done 51 = .ok (.getfield 70, 3) := by decide +kernel
theorem dX9_done_54 : decode cX9_done 54 = .ok (.iload_n 2, 1) := by decide +kernel
theorem dX9_done_55 : decode cX9_done 55 = .ok (.invokevirtual 178, 3) := by decide +kernel
theorem dX9_done_58 : decode cX9_done 58 = .ok (.istore_n 3, 1) := by decide +kernel
theorem dX9_done_59 : decode cX9_done 59 = .ok (.iload_n 3, 1) := by decide +kernel
theorem dX9_done_60 : decode cX9_done 60 = .ok (.iconst 2, 1) := by decide +kernel
theorem dX9_done_61 : decode cX9_done 61 = .ok (.if_icmp .eq 8, 3) := by decide +kernel
theorem dX9_done_64 : decode cX9_done 64 = .ok (.iload_n 3, 1) := by decide +kernel
theorem dX9_done_65 : decode cX9_done 65 = .ok (.iconst 4, 1) := by decide +kernel
theorem dX9_done_66 : decode cX9_done 66 = .ok (.if_icmp .ne 5, 3) := by decide +kernel
theorem dX9_done_69 : decode cX9_done 69 = .ok (.iconst 0, 1) := by decide +kernel
theorem dX9_done_70 : decode cX9_done 70 = .ok (.ireturn, 1) := by decide +kernel
theorem dX9_done_71 : decode cX9_done 71 = .ok (.iinc 2 1, 3) := by decide +kernel
theorem dX9_done_74 : decode cX9_done 74 = .ok (.goto (-45), 3) := by decide +kernel
theorem dX9_done_77 : decode cX9_done 77 = .ok (.iconst 1, 1) := by decide +kernel
theorem dX9_done_78 : decode cX9_done 78 = .ok (.ireturn, 1) := by decide +kernel
theorem dX9_value_0 : decode cX9_value 0 = .ok (.aload_n 0, 1) := by decide +kernel
theorem dX9_value_1 : decode cX9_value 1 = .ok (.iload_n 1, 1) := by decide +kernel
theorem dX9_value_2 : decode cX9_value 2 = .ok (.invokevirtual 182, 3) := by decide +kernel
theorem dX9_value_5 : decode cX9_value 5 = .ok (.ifCond .eq 17, 3) := by decide +kernel
theorem dX9_value_8 : decode cX9_value 8 = .ok (.aload_n 0, 1) := by decide +kernel
theorem dX9_value_9 : decode cX9_value 9 = .ok (.getfield 10, 3) := by decide +kernel
theorem dX9_value_12 : decode cX9_value 12 = .ok (.getfield 89, 3) := by decide +kernel
theorem dX9_value_15 : decode cX9_value 15 = .ok (.iload_n 2, 1) := by decide +kernel
theorem dX9_value_16 : decode cX9_value 16 = .ok (.invokevirtual 102, 3) := by decide +kernel
theorem dX9_value_19 : decode cX9_value 19 = .ok (.ifCond .ne 6, 3) := by decide +kernel
theorem dX9_value_22 : decode cX9_value 22 = .ok (.ldc 28, 2) := by decide +kernel
theorem dX9_value_24 : decode cX9_value 24 = .ok (.ireturn, 1) := by decide +kernel
theorem dX9_value_25 : decode cX9_value 25 = .ok (.aload_n 0, 1) := by decide +kernel
theorem dX9_value_26 : decode cX9_value 26 = .ok (.getfield 38, 3) := by decide +kernel
theorem dX9_value_29 : decode cX9_value 29 = .ok (.aload_n 0, 1) := by decide +kernel
theorem dX9_value_30 : decode cX9_value 30 = .ok (.getfield 10, 3) := by decide +kernel
theorem dX9_value_33 : decode cX9_value 33 = .ok (.aload_n 0, 1) := by decide +kernel
theorem dX9_value_34 : decode cX9_value 34 = .ok (.getfield 25, 3) := by decide +kernel
theorem dX9_value_37 : decode cX9_value 37 = .ok (.iload_n 1, 1) := by decide +kernel
theorem dX9_value_38 : decode cX9_value 38 = .ok (.aaload, 1) := by decide +kernel
theorem dX9_value_39 : decode cX9_value 39 = .ok (.invokevirtual 168, 3) := by decide +kernel
theorem dX9_value_42 : decode cX9_value 42 = .ok (.aload_n 0, 1) := by decide +kernel
theorem dX9_value_43 : decode cX9_value 43 = .ok (.getfield 38, 3) := by decide +kernel
theorem dX9_value_46 : decode cX9_value 46 = .ok (.getfield 186, 3) := by decide +kernel
theorem dX9_value_49 : decode cX9_value 49 = .ok (.iload_n 2, 1) := by decide +kernel
theorem dX9_value_50 : decode cX9_value 50 = .ok (.iaload, 1) := by decide +kernel
theorem dX9_value_51 : decode cX9_value 51 = .ok (.ireturn, 1) := by decide +kernel
theorem dX9_copy_0 : decode cX9_copy 0 = .ok (.aload_n 0, 1) := by decide +kernel
theorem dX9_copy_1 : decode cX9_copy 1 = .ok (.iload_n 1, 1) := by decide +kernel
theorem dX9_copy_2 : decode cX9_copy 2 = .ok (.invokevirtual 182, 3) := by decide +kernel
theorem dX9_copy_5 : decode cX9_copy 5 = .ok (.ifCond .eq 11, 3) := by decide +kernel
theorem dX9_copy_8 : decode cX9_copy 8 = .ok (.aload_n 0, 1) := by decide +kernel
theorem dX9_copy_9 : decode cX9_copy 9 = .ok (.iload_n 2, 1) := by decide +kernel
theorem dX9_copy_10 : decode cX9_copy 10 = .ok (.invokevirtual 182, 3) := by decide +kernel
theorem dX9_copy_13 : decode cX9_copy 13 = .ok (.ifCond .ne 5, 3) := by decide +kernel
theorem dX9_copy_16 : decode cX9_copy 16 = .ok (.iconst (-1), 1) := by decide +kernel
theorem dX9_copy_17 : decode cX9_copy 17 = .ok (.ireturn, 1) := by decide +kernel
theorem dX9_copy_18 : decode cX9_copy 18 = .ok (.aload_n 0, 1) := by decide +kernel
theorem dX9_copy_19 : decode cX9_copy 19 = .ok (.iload_n 2, 1) := by decide +kernel
theorem dX9_copy_20 : decode cX9_copy 20 = .ok (.invokevirtual 165, 3) := by decide +kernel
theorem dX9_copy_23 : decode cX9_copy 23 = .ok (.ifCond .eq 6, 3) := by decide +kernel
theorem dX9_copy_26 : decode cX9_copy 26 = .ok (.bipush (-3), 2) := by decide +kernel
theorem dX9_copy_28 : decode cX9_copy 28 = .ok (.ireturn, 1) := by decide +kernel
theorem dX9_copy_29 : decode cX9_copy 29 = .ok (.iconst 0, 1) := by decide +kernel
theorem dX9_copy_30 : decode cX9_copy 30 = .ok (.istore_n 3, 1) := by decide +kernel
theorem dX9_copy_31 : decode cX9_copy 31 = .ok (.iconst 0, 1) := by decide +kernel
theorem dX9_copy_32 : decode cX9_copy 32 = .ok (.istore 4, 2) := by decide +kernel
theorem dX9_copy_34 : decode cX9_copy 34 = .ok (.iload 4, 2) := by decide +kernel
theorem dX9_copy_36 : decode cX9_copy 36 = .ok (.aload_n 0, 1) := by decide +kernel
theorem dX9_copy_37 : decode cX9_copy 37 = .ok (.getfield 10, 3) := by decide +kernel
theorem dX9_copy_40 : decode cX9_copy 40 = .ok (.getfield 70, 3) := by decide +kernel
theorem dX9_copy_43 : decode cX9_copy 43 = .ok (.getfield 185, 3) := by decide +kernel
theorem dX9_copy_46 : decode cX9_copy 46 = .ok (.if_icmp .ge 51, 3) := by decide +kernel
theorem dX9_copy_49 : decode cX9_copy 49 = .ok (.aload_n 0, 1) := by decide +kernel
theorem dX9_copy_50 : decode cX9_copy 50 = .ok (.getfield 25, 3) := by decide +kernel
theorem dX9_copy_53 : decode cX9_copy 53 = .ok (.iload_n 2, 1) := by decide +kernel
theorem dX9_copy_54 : decode cX9_copy 54 = .ok (.aaload, 1) := by decide +kernel
theorem dX9_copy_55 : decode cX9_copy 55 = .ok (.iload 4, 2) := by decide +kernel
theorem dX9_copy_57 : decode cX9_copy 57 = .ok (.iaload, 1) := by decide +kernel
theorem dX9_copy_58 : decode cX9_copy 58 = .ok (.aload_n 0, 1) := by decide +kernel
theorem dX9_copy_59 : decode cX9_copy 59 = .ok (.getfield 25, 3) := by decide +kernel
theorem dX9_copy_62 : decode cX9_copy 62 = .ok (.iload_n 1, 1) := by decide +kernel
theorem dX9_copy_63 : decode cX9_copy 63 = .ok (.aaload, 1) := by decide +kernel
theorem dX9_copy_64 : decode cX9_copy 64 = .ok (.iload 4, 2) := by decide +kernel
theorem dX9_copy_66 : decode cX9_copy 66 = .ok (.iaload, 1) := by decide +kernel
theorem dX9_copy_67 : decode cX9_copy 67 = .ok (.if_icmp .eq 24, 3) := by decide +kernel
theorem dX9_copy_70 : decode cX9_copy 70 = .ok (.aload_n 0, 1) := by decide +kernel
theorem dX9_copy_71 : decode cX9_copy 71 = .ok (.getfield 25, 3) := by decide +kernel
theorem dX9_copy_74 : decode cX9_copy 74 = .ok (.iload_n 2, 1) := by decide +kernel
theorem dX9_copy_75 : decode cX9_copy 75 = .ok (.aaload, 1) := by decide +kernel
theorem dX9_copy_76 : decode cX9_copy 76 = .ok (.iload 4, 2) := by decide +kernel
theorem dX9_copy_78 : decode cX9_copy 78 = .ok (.aload_n 0, 1) := by decide +kernel
theorem dX9_copy_79 : decode cX9_copy 79 = .ok (.getfield 25, 3) := by decide +kernel
theorem dX9_copy_82 : decode cX9_copy 82 = .ok (.iload_n 1, 1) := by decide +kernel
theorem dX9_copy_83 : decode cX9_copy 83 = .ok (.aaload, 1) := by decide +kernel
theorem dX9_copy_84 : decode cX9_copy 84 = .ok (.iload 4, 2) := by decide +kernel
theorem dX9_copy_86 : decode cX9_copy 86 = .ok (.iaload, 1) := by decide +kernel
theorem dX9_copy_87 : decode cX9_copy 87 = .ok (.iastore, 1) := by decide +kernel
theorem dX9_copy_88 : decode cX9_copy 88 = .ok (.iinc 3 1, 3) := by decide +kernel
theorem dX9_copy_91 : decode cX9_copy 91 = .ok (.iinc 4 1, 3) := by decide +kernel
theorem dX9_copy_94 : decode cX9_copy 94 = .ok (.goto (-60), 3) := by decide +kernel
theorem dX9_copy_97 : decode cX9_copy 97 = .ok (.iload_n 3, 1) := by decide +kernel
theorem dX9_copy_98 : decode cX9_copy 98 = .ok (.ireturn, 1) := by decide +kernel
theorem dX9_join_0 : decode cX9_join 0 = .ok (.aload_n 0, 1) := by decide +kernel
theorem dX9_join_1 : decode cX9_join 1 = .ok (.iload_n 1, 1) := by decide +kernel
theorem dX9_join_2 : decode cX9_join 2 = .ok (.invokevirtual 182, 3) := by decide +kernel
theorem dX9_join_5 : decode cX9_join 5 = .ok (.ifCond .eq 28, 3) := by decide +kernel
theorem dX9_join_8 : decode cX9_join 8 = .ok (.aload_n 0, 1) := by decide +kernel
theorem dX9_join_9 : decode cX9_join 9 = .ok (.iload_n 2, 1) := by decide +kernel
theorem dX9_join_10 : decode cX9_join 10 = .ok (.invokevirtual 182, 3) := by decide +kernel
theorem dX9_join_13 : decode cX9_join 13 = .ok (.ifCond .eq 20, 3) := by decide +kernel
theorem dX9_join_16 : decode cX9_join 16 = .ok (.aload_n 0, 1) := by decide +kernel
theorem dX9_join_17 : decode cX9_join 17 = .ok (.iload_n 3, 1) := by decide +kernel
theorem dX9_join_18 : decode cX9_join 18 = .ok (.invokevirtual 182, 3) := by decide +kernel
theorem dX9_join_21 : decode cX9_join 21 = .ok (.ifCond .eq 12, 3) := by decide +kernel
theorem dX9_join_24 : decode cX9_join 24 = .ok (.aload_n 0, 1) := by decide +kernel
theorem dX9_join_25 : decode cX9_join 25 = .ok (.iload 4, 2) := by decide +kernel
theorem dX9_join_27 : decode cX9_join 27 = .ok (.invokevirtual 182, 3) := by decide +kernel
theorem dX9_join_30 : decode cX9_join 30 = .ok (.ifCond .ne 5, 3) := by decide +kernel
theorem dX9_join_33 : decode cX9_join 33 = .ok (.iconst (-1), 1) := by decide +kernel
theorem dX9_join_34 : decode cX9_join 34 = .ok (.ireturn, 1) := by decide +kernel
theorem dX9_join_35 : decode cX9_join 35 = .ok (.aload_n 0, 1) := by decide +kernel
theorem dX9_join_36 : decode cX9_join 36 = .ok (.iload 4, 2) := by decide +kernel
theorem dX9_join_38 : decode cX9_join 38 = .ok (.invokevirtual 165, 3) := by decide +kernel
theorem dX9_join_41 : decode cX9_join 41 = .ok (.ifCond .eq 6, 3) := by decide +kernel
theorem dX9_join_44 : decode cX9_join 44 = .ok (.bipush (-3), 2) := by decide +kernel
theorem dX9_join_46 : decode cX9_join 46 = .ok (.ireturn, 1) := by decide +kernel
theorem dX9_join_47 : decode cX9_join 47 = .ok (.aload_n 0, 1) := by decide +kernel
theorem dX9_join_48 : decode cX9_join 48 = .ok (.getfield 45, 3) := by decide +kernel
theorem dX9_join_51 : decode cX9_join 51 = .ok (.invokevirtual 189, 3) := by decide +kernel
theorem dX9_join_54 : decode cX9_join 54 = .ok (.iconst 0, 1) := by decide +kernel
theorem dX9_join_55 : decode cX9_join 55 = .ok (.istore 5, 2) := by decide +kernel
theorem dX9_join_57 : decode cX9_join 57 = .ok (.iload 5, 2) := by decide +kernel
theorem dX9_join_59 : decode cX9_join 59 = .ok (.aload_n 0, 1) := by decide +kernel
theorem dX9_join_60 : decode cX9_join 60 = .ok (.getfield 10, 3) := by decide +kernel
theorem dX9_join_63 : decode cX9_join 63 = .ok (.getfield 70, 3) := by decide +kernel
theorem dX9_join_66 : decode cX9_join 66 = .ok (.getfield 185, 3) := by decide +kernel
theorem dX9_join_69 : decode cX9_join 69 = .ok (.if_icmp .ge 55, 3) := by decide +kernel
theorem dX9_join_72 : decode cX9_join 72 = .ok (.aload_n 0, 1) := by decide +kernel
theorem dX9_join_73 : decode cX9_join 73 = .ok (.getfield 25, 3) := by decide +kernel
theorem dX9_join_76 : decode cX9_join 76 = .ok (.iload 4, 2) := by decide +kernel
theorem dX9_join_78 : decode cX9_join 78 = .ok (.aaload, 1) := by decide +kernel
theorem dX9_join_79 : decode cX9_join 79 = .ok (.iload 5, 2) := by decide +kernel
theorem dX9_join_81 : decode cX9_join 81 = .ok (.aload_n 0, 1) := by decide +kernel
theorem dX9_join_82 : decode cX9_join 82 = .ok (.getfield 45, 3) := by decide +kernel
theorem dX9_join_85 : decode cX9_join 85 = .ok (.iload 5, 2) := by decide +kernel
theorem dX9_join_87 : decode cX9_join 87 = .ok (.aload_n 0, 1) := by decide +kernel
theorem dX9_join_88 : decode cX9_join 88 = .ok (.getfield 25, 3) := by decide +kernel
theorem dX9_join_91 : decode cX9_join 91 = .ok (.iload_n 1, 1) := by decide +kernel
theorem dX9_join_92 : decode cX9_join 92 = .ok (.aaload, 1) := by decide +kernel
theorem dX9_join_93 : decode cX9_join 93 = .ok (.iload 5, 2) := by decide +kernel
theorem dX9_join_95 : decode cX9_join 95 = .ok (.iaload, 1) := by decide +kernel
theorem dX9_join_96 : decode cX9_join 96 = .ok (.aload_n 0, 1) := by decide +kernel
theorem dX9_join_97 : decode cX9_join 97 = .ok (.getfield 25, 3) := by decide +kernel
theorem dX9_join_100 : decode cX9_join 100 = .ok (.iload_n 2, 1) := by decide +kernel
theorem dX9_join_101 : decode cX9_join 101 = .ok (.aaload, 1) := by decide +kernel
theorem dX9_join_102 : decode cX9_join 102 = .ok (.iload 5, 2) := by decide +kernel
theorem dX9_join_104 : decode cX9_join 104 = .ok (.iaload, 1) := by decide +kernel
theorem dX9_join_105 : decode cX9_join 105 = .ok (.aload_n 0, 1) := by decide +kernel
theorem dX9_join_106 : decode cX9_join 106 = .ok (.getfield 25, 3) := by decide +kernel
theorem dX9_join_109 : decode cX9_join 109 = .ok (.iload_n 3, 1) := by decide +kernel
theorem dX9_join_110 : decode cX9_join 110 = .ok (.aaload, 1) := by decide +kernel
theorem dX9_join_111 : decode cX9_join 111 = .ok (.iload 5, 2) := by decide +kernel
theorem dX9_join_113 : decode cX9_join 113 = .ok (.iaload, 1) := by decide +kernel
theorem dX9_join_114 : decode cX9_join 114 = .ok (.invokevirtual 192, 3) := by decide +kernel
theorem dX9_join_117 : decode cX9_join 117 = .ok (.iastore, 1) := by decide +kernel
theorem dX9_join_118 : decode cX9_join 118 = .ok (.iinc 5 1, 3) := by decide +kernel
theorem dX9_join_121 : decode cX9_join 121 = .ok (.goto (-64), 3) := by decide +kernel
theorem dX9_join_124 : decode cX9_join 124 = .ok (.aload_n 0, 1) := by decide +kernel
theorem dX9_join_125 : decode cX9_join 125 = .ok (.getfield 45, 3) := by decide +kernel
theorem dX9_join_128 : decode cX9_join 128 = .ok (.getfield 195, 3) := by decide +kernel
theorem dX9_join_131 : decode cX9_join 131 = .ok (.ireturn, 1) := by decide +kernel
theorem dX9_odds_0 : decode cX9_odds 0 = .ok (.iload_n 1, 1) := by decide +kernel
theorem dX9_odds_1 : decode cX9_odds 1 = .ok (.ifCond .lt 26, 3) := by decide +kernel
theorem dX9_odds_4 : decode cX9_odds 4 = .ok (.iload_n 1, 1) := by decide +kernel
theorem dX9_odds_5 : decode cX9_odds 5 = .ok (.aload_n 0, 1) := by decide +kernel
theorem dX9_odds_6 : decode cX9_odds 6 = .ok (.getfield 45, 3) := by decide +kernel
theorem dX9_odds_9 : decode cX9_odds 9 = .ok (.getfield 195, 3) := by decide +kernel
theorem dX9_odds_12 : decode cX9_odds 12 = .ok (.if_icmp .ge 15, 3) := by decide +kernel
theorem dX9_odds_15 : decode cX9_odds 15 = .ok (.aload_n 0, 1) := by decide +kernel
theorem dX9_odds_16 : decode cX9_odds 16 = .ok (.getfield 45, 3) := by decide +kernel
theorem dX9_odds_19 : decode cX9_odds 19 = .ok (.getfield 196, 3) := by decide +kernel
theorem dX9_odds_22 : decode cX9_odds 22 = .ok (.iload_n 1, 1) := by decide +kernel
theorem dX9_odds_23 : decode cX9_odds 23 = .ok (.iaload, 1) := by decide +kernel
theorem dX9_odds_24 : decode cX9_odds 24 = .ok (.goto 4, 3) := by decide +kernel
theorem dX9_odds_27 : decode cX9_odds 27 = .ok (.iconst (-1), 1) := by decide +kernel
theorem dX9_odds_28 : decode cX9_odds 28 = .ok (.ireturn, 1) := by decide +kernel
theorem dX9_seal_0 : decode cX9_seal 0 = .ok (.aload_n 0, 1) := by decide +kernel
theorem dX9_seal_1 : decode cX9_seal 1 = .ok (.iload_n 1, 1) := by decide +kernel
theorem dX9_seal_2 : decode cX9_seal 2 = .ok (.invokevirtual 182, 3) := by decide +kernel
theorem dX9_seal_5 : decode cX9_seal 5 = .ok (.ifCond .ne 5, 3) := by decide +kernel
theorem dX9_seal_8 : decode cX9_seal 8 = .ok (.iconst (-1), 1) := by decide +kernel
theorem dX9_seal_9 : decode cX9_seal 9 = .ok (.ireturn, 1) := by decide +kernel
theorem dX9_seal_10 : decode cX9_seal 10 = .ok (.iload_n 2, 1) := by decide +kernel
theorem dX9_seal_11 : decode cX9_seal 11 = .ok (.iconst 1, 1) := by decide +kernel
theorem dX9_seal_12 : decode cX9_seal 12 = .ok (.if_icmp .lt 19, 3) := by decide +kernel
theorem dX9_seal_15 : decode cX9_seal 15 = .ok (.iload_n 2, 1) := by decide +kernel
theorem dX9_seal_16 : decode cX9_seal 16 = .ok (.iconst 1, 1) := by decide +kernel
theorem dX9_seal_17 : decode cX9_seal 17 = .ok (.aload_n 0, 1) := by decide +kernel
theorem dX9_seal_18 : decode cX9_seal 18 = .ok (.getfield 10, 3) := by decide +kernel
theorem dX9_seal_21 : decode cX9_seal 21 = .ok (.getfield 70, 3) := by decide +kernel
theorem dX9_seal_24 : decode cX9_seal 24 = .ok (.getfield 185, 3) := by decide +kernel
theorem dX9_seal_27 : decode cX9_seal 27 = .ok (.ishl, 1) := by decide +kernel
theorem dX9_seal_28 : decode cX9_seal 28 = .ok (.if_icmp .lt 6, 3) := by decide +kernel
theorem dX9_seal_31 : decode cX9_seal 31 = .ok (.bipush (-2), 2) := by decide +kernel
theorem dX9_seal_33 : decode cX9_seal 33 = .ok (.ireturn, 1) := by decide +kernel
theorem dX9_seal_34 : decode cX9_seal 34 = .ok (.aload_n 0, 1) := by decide +kernel
theorem dX9_seal_35 : decode cX9_seal 35 = .ok (.getfield 38, 3) := by decide +kernel
theorem dX9_seal_38 : decode cX9_seal 38 = .ok (.aload_n 0, 1) := by decide +kernel
theorem dX9_seal_39 : decode cX9_seal 39 = .ok (.getfield 10, 3) := by decide +kernel
theorem dX9_seal_42 : decode cX9_seal 42 = .ok (.aload_n 0, 1) := by decide +kernel
theorem dX9_seal_43 : decode cX9_seal 43 = .ok (.getfield 25, 3) := by decide +kernel
theorem dX9_seal_46 : decode cX9_seal 46 = .ok (.iload_n 1, 1) := by decide +kernel
theorem dX9_seal_47 : decode cX9_seal 47 = .ok (.aaload, 1) := by decide +kernel
theorem dX9_seal_48 : decode cX9_seal 48 = .ok (.invokevirtual 168, 3) := by decide +kernel
theorem dX9_seal_51 : decode cX9_seal 51 = .ok (.aload_n 0, 1) := by decide +kernel
theorem dX9_seal_52 : decode cX9_seal 52 = .ok (.getfield 52, 3) := by decide +kernel
theorem dX9_seal_55 : decode cX9_seal 55 = .ok (.iload_n 1, 1) := by decide +kernel
theorem dX9_seal_56 : decode cX9_seal 56 = .ok (.iload_n 2, 1) := by decide +kernel
theorem dX9_seal_57 : decode cX9_seal 57 = .ok (.aload_n 0, 1) := by decide +kernel
theorem dX9_seal_58 : decode cX9_seal 58 = .ok (.getfield 25, 3) := by decide +kernel
theorem dX9_seal_61 : decode cX9_seal 61 = .ok (.iload_n 1, 1) := by decide +kernel
theorem dX9_seal_62 : decode cX9_seal 62 = .ok (.aaload, 1) := by decide +kernel
theorem dX9_seal_63 : decode cX9_seal 63 = .ok (.aload_n 0, 1) := by decide +kernel
theorem dX9_seal_64 : decode cX9_seal 64 = .ok (.getfield 10, 3) := by decide +kernel
theorem dX9_seal_67 : decode cX9_seal 67 = .ok (.getfield 70, 3) := by decide +kernel
theorem dX9_seal_70 : decode cX9_seal 70 = .ok (.aload_n 0, 1) := by decide +kernel
theorem dX9_seal_71 : decode cX9_seal 71 = .ok (.getfield 38, 3) := by decide +kernel
theorem dX9_seal_74 : decode cX9_seal 74 = .ok (.invokevirtual 199, 3) := by decide +kernel
theorem dX9_seal_77 : decode cX9_seal 77 = .ok (.ireturn, 1) := by decide +kernel
theorem dX9_open_0 : decode cX9_open 0 = .ok (.aload_n 0, 1) := by decide +kernel
theorem dX9_open_1 : decode cX9_open 1 = .ok (.getfield 52, 3) := by decide +kernel
theorem dX9_open_4 : decode cX9_open 4 = .ok (.iload_n 1, 1) := by decide +kernel
theorem dX9_open_5 : decode cX9_open 5 = .ok (.invokevirtual 202, 3) := by decide +kernel
theorem dX9_open_8 : decode cX9_open 8 = .ok (.ifCond .ne 5, 3) := by decide +kernel
theorem dX9_open_11 : decode cX9_open 11 = .ok (.iconst (-1), 1) := by decide +kernel
theorem dX9_open_12 : decode cX9_open 12 = .ok (.ireturn, 1) := by decide +kernel
theorem dX9_open_13 : decode cX9_open 13 = .ok (.aload_n 0, 1) := by decide +kernel
theorem dX9_open_14 : decode cX9_open 14 = .ok (.getfield 52, 3) := by decide +kernel
theorem dX9_open_17 : decode cX9_open 17 = .ok (.getfield 203, 3) := by decide +kernel
theorem dX9_open_20 : decode cX9_open 20 = .ok (.iload_n 1, 1) := by decide +kernel
theorem dX9_open_21 : decode cX9_open 21 = .ok (.baload, 1) := by decide +kernel
theorem dX9_open_22 : decode cX9_open 22 = .ok (.ifCond .ne 7, 3) := by decide +kernel
theorem dX9_open_25 : decode cX9_open 25 = .ok (.iconst 1, 1) := by decide +kernel
theorem dX9_open_26 : decode cX9_open 26 = .ok (.goto 4, 3) := by decide +kernel
theorem dX9_open_29 : decode cX9_open 29 = .ok (.iconst 0, 1) := by decide +kernel
theorem dX9_open_30 : decode cX9_open 30 = .ok (.invokestatic 155, 3) := by decide +kernel
theorem dX9_open_33 : decode cX9_open 33 = .ok (.istore_n 2, 1) := by decide +kernel
theorem dX9_open_34 : decode cX9_open 34 = .ok (.aload_n 0, 1) := by decide +kernel
theorem dX9_open_35 : decode cX9_open 35 = .ok (.getfield 52, 3) := by decide +kernel
theorem dX9_open_38 : decode cX9_open 38 = .ok (.getfield 203, 3) := by decide +kernel
theorem dX9_open_41 : decode cX9_open 41 = .ok (.iload_n 1, 1) := by decide +kernel
theorem dX9_open_42 : decode cX9_open 42 = .ok (.iconst 1, 1) := by decide +kernel
theorem dX9_open_43 : decode cX9_open 43 = .ok (.bastore, 1) := by decide +kernel
theorem dX9_open_44 : decode cX9_open 44 = .ok (.iload_n 2, 1) := by decide +kernel
theorem dX9_open_45 : decode cX9_open 45 = .ok (.ireturn, 1) := by decide +kernel
theorem dX9_sealed_0 : decode cX9_sealed 0 = .ok (.aload_n 0, 1) := by decide +kernel
theorem dX9_sealed_1 : decode cX9_sealed 1 = .ok (.getfield 52, 3) := by decide +kernel
theorem dX9_sealed_4 : decode cX9_sealed 4 = .ok (.iload_n 1, 1) := by decide +kernel
theorem dX9_sealed_5 : decode cX9_sealed 5 = .ok (.invokevirtual 202, 3) := by decide +kernel
theorem dX9_sealed_8 : decode cX9_sealed 8 = .ok (.ifCond .ne 5, 3) := by decide +kernel
theorem dX9_sealed_11 : decode cX9_sealed 11 = .ok (.iconst (-1), 1) := by decide +kernel
theorem dX9_sealed_12 : decode cX9_sealed 12 = .ok (.ireturn, 1) := by decide +kernel
theorem dX9_sealed_13 : decode cX9_sealed 13 = .ok (.iload_n 2, 1) := by decide +kernel
theorem dX9_sealed_14 : decode cX9_sealed 14 = .ok (.bipush 30, 2) := by decide +kernel
theorem dX9_sealed_16 : decode cX9_sealed 16 = .ok (.if_icmp .lt 35, 3) := by decide +kernel
theorem dX9_sealed_19 : decode cX9_sealed 19 = .ok (.aload_n 0, 1) := by decide +kernel
theorem dX9_sealed_20 : decode cX9_sealed 20 = .ok (.getfield 10, 3) := by decide +kernel
theorem dX9_sealed_23 : decode cX9_sealed 23 = .ok (.getfield 70, 3) := by decide +kernel
theorem dX9_sealed_26 : decode cX9_sealed 26 = .ok (.iload_n 2, 1) := by decide +kernel
theorem dX9_sealed_27 : decode cX9_sealed 27 = .ok (.bipush 30, 2) := by decide +kernel
theorem dX9_sealed_29 : decode cX9_sealed 29 = .ok (.isub, 1) := by decide +kernel
theorem dX9_sealed_30 : decode cX9_sealed 30 = .ok (.invokevirtual 98, 3) := by decide +kernel
theorem dX9_sealed_33 : decode cX9_sealed 33 = .ok (.ifCond .eq 18, 3) := by decide +kernel
theorem dX9_sealed_36 : decode cX9_sealed 36 = .ok (.aload_n 0, 1) := by decide +kernel
theorem dX9_sealed_37 : decode cX9_sealed 37 = .ok (.getfield 52, 3) := by decide +kernel
theorem dX9_sealed_40 : decode cX9_sealed 40 = .ok (.getfield 206, 3) := by decide +kernel
theorem dX9_sealed_43 : decode cX9_sealed 43 = .ok (.iload_n 1, 1) := by decide +kernel
theorem dX9_sealed_44 : decode cX9_sealed 44 = .ok (.aaload, 1) := by decide +kernel
theorem dX9_sealed_45 : decode cX9_sealed 45 = .ok (.iload_n 2, 1) := by decide +kernel
theorem dX9_sealed_46 : decode cX9_sealed 46 = .ok (.bipush 30, 2) := by decide +kernel
theorem dX9_sealed_48 : decode cX9_sealed 48 = .ok (.isub, 1) := by decide +kernel
theorem dX9_sealed_49 : decode cX9_sealed 49 = .ok (.iaload, 1) := by decide +kernel
theorem dX9_sealed_50 : decode cX9_sealed 50 = .ok (.ireturn, 1) := by decide +kernel
theorem dX9_sealed_51 : decode cX9_sealed 51 = .ok (.iload_n 2, 1) := by decide +kernel
theorem dX9_sealed_52 : decode cX9_sealed 52 = .ok (.bipush 10, 2) := by decide +kernel
theorem dX9_sealed_54 : decode cX9_sealed 54 = .ok (.if_icmp .lt 35, 3) := by decide +kernel
theorem dX9_sealed_57 : decode cX9_sealed 57 = .ok (.aload_n 0, 1) := by decide +kernel
theorem dX9_sealed_58 : decode cX9_sealed 58 = .ok (.getfield 10, 3) := by decide +kernel
theorem dX9_sealed_61 : decode cX9_sealed 61 = .ok (.getfield 70, 3) := by decide +kernel
theorem dX9_sealed_64 : decode cX9_sealed 64 = .ok (.iload_n 2, 1) := by decide +kernel
theorem dX9_sealed_65 : decode cX9_sealed 65 = .ok (.bipush 10, 2) := by decide +kernel
theorem dX9_sealed_67 : decode cX9_sealed 67 = .ok (.isub, 1) := by decide +kernel
theorem dX9_sealed_68 : decode cX9_sealed 68 = .ok (.invokevirtual 98, 3) := by decide +kernel
theorem dX9_sealed_71 : decode cX9_sealed 71 = .ok (.ifCond .eq 18, 3) := by decide +kernel
theorem dX9_sealed_74 : decode cX9_sealed 74 = .ok (.aload_n 0, 1) := by decide +kernel
theorem dX9_sealed_75 : decode cX9_sealed 75 = .ok (.getfield 52, 3) := by decide +kernel
theorem dX9_sealed_78 : decode cX9_sealed 78 = .ok (.getfield 209, 3) := by decide +kernel
theorem dX9_sealed_81 : decode cX9_sealed 81 = .ok (.iload_n 1, 1) := by decide +kernel
theorem dX9_sealed_82 : decode cX9_sealed 82 = .ok (.aaload, 1) := by decide +kernel
theorem dX9_sealed_83 : decode cX9_sealed 83 = .ok (.iload_n 2, 1) := by decide +kernel
theorem dX9_sealed_84 : decode cX9_sealed 84 = .ok (.bipush 10, 2) := by decide +kernel
theorem dX9_sealed_86 : decode cX9_sealed 86 = .ok (.isub, 1) := by decide +kernel
theorem dX9_sealed_87 : decode cX9_sealed 87 = .ok (.iaload, 1) := by decide +kernel
theorem dX9_sealed_88 : decode cX9_sealed 88 = .ok (.ireturn, 1) := by decide +kernel
theorem dX9_sealed_89 : decode cX9_sealed 89 = .ok (.iload_n 2, 1) := by decide +kernel
theorem dX9_sealed_90 : decode cX9_sealed 90 = .ok (.tableswitch 72 0 3 #[30, 40, 50, 63], 30) := by decide +kernel
theorem dX9_sealed_120 : decode cX9_sealed 120 = .ok (.aload_n 0, 1) := by decide +kernel
theorem dX9_sealed_121 : decode cX9_sealed 121 = .ok (.getfield 52, 3) := by decide +kernel
theorem dX9_sealed_124 : decode cX9_sealed 124 = .ok (.getfield 212, 3) := by decide +kernel
theorem dX9_sealed_127 : decode cX9_sealed 127 = .ok (.iload_n 1, 1) := by decide +kernel
theorem dX9_sealed_128 : decode cX9_sealed 128 = .ok (.iaload, 1) := by decide +kernel
theorem dX9_sealed_129 : decode cX9_sealed 129 = .ok (.ireturn, 1) := by decide +kernel
theorem dX9_sealed_130 : decode cX9_sealed 130 = .ok (.aload_n 0, 1) := by decide +kernel
theorem dX9_sealed_131 : decode cX9_sealed 131 = .ok (.getfield 52, 3) := by decide +kernel
theorem dX9_sealed_134 : decode cX9_sealed 134 = .ok (.getfield 215, 3) := by decide +kernel
theorem dX9_sealed_137 : decode cX9_sealed 137 = .ok (.iload_n 1, 1) := by decide +kernel
theorem dX9_sealed_138 : decode cX9_sealed 138 = .ok (.iaload, 1) := by decide +kernel
theorem dX9_sealed_139 : decode cX9_sealed 139 = .ok (.ireturn, 1) := by decide +kernel
theorem dX9_sealed_140 : decode cX9_sealed 140 = .ok (.aload_n 0, 1) := by decide +kernel
theorem dX9_sealed_141 : decode cX9_sealed 141 = .ok (.getfield 52, 3) := by decide +kernel
theorem dX9_sealed_144 : decode cX9_sealed 144 = .ok (.getfield 203, 3) := by decide +kernel
theorem dX9_sealed_147 : decode cX9_sealed 147 = .ok (.iload_n 1, 1) := by decide +kernel
theorem dX9_sealed_148 : decode cX9_sealed 148 = .ok (.baload, 1) := by decide +kernel
theorem dX9_sealed_149 : decode cX9_sealed 149 = .ok (.invokestatic 155, 3) := by decide +kernel
theorem dX9_sealed_152 : decode cX9_sealed 152 = .ok (.ireturn, 1) := by decide +kernel
theorem dX9_sealed_153 : decode cX9_sealed 153 = .ok (.aload_n 0, 1) := by decide +kernel
theorem dX9_sealed_154 : decode cX9_sealed 154 = .ok (.iload_n 1, 1) := by decide +kernel
theorem dX9_sealed_155 : decode cX9_sealed 155 = .ok (.invokevirtual 217, 3) := by decide +kernel
theorem dX9_sealed_158 : decode cX9_sealed 158 = .ok (.invokestatic 155, 3) := by decide +kernel
theorem dX9_sealed_161 : decode cX9_sealed 161 = .ok (.ireturn, 1) := by decide +kernel
theorem dX9_sealed_162 : decode cX9_sealed 162 = .ok (.bipush (-2), 2) := by decide +kernel
theorem dX9_sealed_164 : decode cX9_sealed 164 = .ok (.ireturn, 1) := by decide +kernel
theorem dX9_reach_0 : decode cX9_reach 0 = .ok (.aload_n 0, 1) := by decide +kernel
theorem dX9_reach_1 : decode cX9_reach 1 = .ok (.getfield 10, 3) := by decide +kernel
theorem dX9_reach_4 : decode cX9_reach 4 = .ok (.getfield 70, 3) := by decide +kernel
theorem dX9_reach_7 : decode cX9_reach 7 = .ok (.iload_n 1, 1) := by decide +kernel
theorem dX9_reach_8 : decode cX9_reach 8 = .ok (.invokevirtual 98, 3) := by decide +kernel
theorem dX9_reach_11 : decode cX9_reach 11 = .ok (.ifCond .eq 18, 3) := by decide +kernel
theorem dX9_reach_14 : decode cX9_reach 14 = .ok (.aload_n 0, 1) := by decide +kernel
theorem dX9_reach_15 : decode cX9_reach 15 = .ok (.getfield 59, 3) := by decide +kernel
theorem dX9_reach_18 : decode cX9_reach 18 = .ok (.aload_n 0, 1) := by decide +kernel
theorem dX9_reach_19 : decode cX9_reach 19 = .ok (.getfield 10, 3) := by decide +kernel
theorem dX9_reach_22 : decode cX9_reach 22 = .ok (.iload_n 1, 1) := by decide +kernel
theorem dX9_reach_23 : decode cX9_reach 23 = .ok (.invokevirtual 220, 3) := by decide +kernel
theorem dX9_reach_26 : decode cX9_reach 26 = .ok (.goto 4, 3) := by decide +kernel
theorem dX9_reach_29 : decode cX9_reach 29 = .ok (.iconst (-1), 1) := by decide +kernel
theorem dX9_reach_30 : decode cX9_reach 30 = .ok (.ireturn, 1) := by decide +kernel
theorem dX9_found_0 : decode cX9_found 0 = .ok (.aload_n 0, 1) := by decide +kernel
theorem dX9_found_1 : decode cX9_found 1 = .ok (.getfield 10, 3) := by decide +kernel
theorem dX9_found_4 : decode cX9_found 4 = .ok (.getfield 70, 3) := by decide +kernel
theorem dX9_found_7 : decode cX9_found 7 = .ok (.iload_n 1, 1) := by decide +kernel
theorem dX9_found_8 : decode cX9_found 8 = .ok (.invokevirtual 98, 3) := by decide +kernel
theorem dX9_found_11 : decode cX9_found 11 = .ok (.ifCond .eq 15, 3) := by decide +kernel
theorem dX9_found_14 : decode cX9_found 14 = .ok (.aload_n 0, 1) := by decide +kernel
theorem dX9_found_15 : decode cX9_found 15 = .ok (.getfield 59, 3) := by decide +kernel
theorem dX9_found_18 : decode cX9_found 18 = .ok (.getfield 224, 3) := by decide +kernel
theorem dX9_found_21 : decode cX9_found 21 = .ok (.iload_n 1, 1) := by decide +kernel
theorem dX9_found_22 : decode cX9_found 22 = .ok (.iaload, 1) := by decide +kernel
theorem dX9_found_23 : decode cX9_found 23 = .ok (.goto 5, 3) := by decide +kernel
theorem dX9_found_26 : decode cX9_found 26 = .ok (.ldc 28, 2) := by decide +kernel
theorem dX9_found_28 : decode cX9_found 28 = .ok (.ireturn, 1) := by decide +kernel
theorem dX9_tried_0 : decode cX9_tried 0 = .ok (.aload_n 0, 1) := by decide +kernel
theorem dX9_tried_1 : decode cX9_tried 1 = .ok (.getfield 59, 3) := by decide +kernel
theorem dX9_tried_4 : decode cX9_tried 4 = .ok (.getfield 227, 3) := by decide +kernel
theorem dX9_tried_7 : decode cX9_tried 7 = .ok (.ireturn, 1) := by decide +kernel
theorem dX9_told_0 : decode cX9_told 0 = .ok (.iload_n 1, 1) := by decide +kernel
theorem dX9_told_1 : decode cX9_told 1 = .ok (.tableswitch 96 0 5 #[39, 50, 61, 75, 83, 88], 39) := by decide +kernel
theorem dX9_told_40 : decode cX9_told 40 = .ok (.aload_n 0, 1) := by decide +kernel
theorem dX9_told_41 : decode cX9_told 41 = .ok (.getfield 10, 3) := by decide +kernel
theorem dX9_told_44 : decode cX9_told 44 = .ok (.getfield 70, 3) := by decide +kernel
theorem dX9_told_47 : decode cX9_told 47 = .ok (.getfield 185, 3) := by decide +kernel
theorem dX9_told_50 : decode cX9_told 50 = .ok (.ireturn, 1) := by decide +kernel
theorem dX9_told_51 : decode cX9_told 51 = .ok (.aload_n 0, 1) := by decide +kernel
theorem dX9_told_52 : decode cX9_told 52 = .ok (.getfield 10, 3) := by decide +kernel
theorem dX9_told_55 : decode cX9_told 55 = .ok (.getfield 89, 3) := by decide +kernel
theorem dX9_told_58 : decode cX9_told 58 = .ok (.getfield 230, 3) := by decide +kernel
theorem dX9_told_61 : decode cX9_told 61 = .ok (.ireturn, 1) := by decide +kernel
theorem dX9_told_62 : decode cX9_told 62 = .ok (.aload_n 0, 1) := by decide +kernel
theorem dX9_told_63 : decode cX9_told 63 = .ok (.getfield 10, 3) := by decide +kernel
theorem dX9_told_66 : decode cX9_told 66 = .ok (.getfield 70, 3) := by decide +kernel
theorem dX9_told_69 : decode cX9_told 69 = .ok (.invokevirtual 231, 3) := by decide +kernel
theorem dX9_told_72 : decode cX9_told 72 = .ok (.invokestatic 147, 3) := by decide +kernel
theorem dX9_told_75 : decode cX9_told 75 = .ok (.ireturn, 1) := by decide +kernel
theorem dX9_told_76 : decode cX9_told 76 = .ok (.aload_n 0, 1) := by decide +kernel
theorem dX9_told_77 : decode cX9_told 77 = .ok (.getfield 52, 3) := by decide +kernel
theorem dX9_told_80 : decode cX9_told 80 = .ok (.getfield 235, 3) := by decide +kernel
theorem dX9_told_83 : decode cX9_told 83 = .ok (.ireturn, 1) := by decide +kernel
theorem dX9_told_84 : decode cX9_told 84 = .ok (.aload_n 0, 1) := by decide +kernel
theorem dX9_told_85 : decode cX9_told 85 = .ok (.invokevirtual 236, 3) := by decide +kernel
theorem dX9_told_88 : decode cX9_told 88 = .ok (.ireturn, 1) := by decide +kernel
theorem dX9_told_89 : decode cX9_told 89 = .ok (.aload_n 0, 1) := by decide +kernel
theorem dX9_told_90 : decode cX9_told 90 = .ok (.getfield 45, 3) := by decide +kernel
theorem dX9_told_93 : decode cX9_told 93 = .ok (.getfield 195, 3) := by decide +kernel
theorem dX9_told_96 : decode cX9_told 96 = .ok (.ireturn, 1) := by decide +kernel
theorem dX9_told_97 : decode cX9_told 97 = .ok (.iload_n 1, 1) := by decide +kernel
theorem dX9_told_98 : decode cX9_told 98 = .ok (.bipush 10, 2) := by decide +kernel
theorem dX9_told_100 : decode cX9_told 100 = .ok (.if_icmp .lt 25, 3) := by decide +kernel
theorem dX9_told_103 : decode cX9_told 103 = .ok (.aload_n 0, 1) := by decide +kernel
theorem dX9_told_104 : decode cX9_told 104 = .ok (.iload_n 1, 1) := by decide +kernel
theorem dX9_told_105 : decode cX9_told 105 = .ok (.bipush 10, 2) := by decide +kernel
theorem dX9_told_107 : decode cX9_told 107 = .ok (.isub, 1) := by decide +kernel
theorem dX9_told_108 : decode cX9_told 108 = .ok (.invokevirtual 182, 3) := by decide +kernel
theorem dX9_told_111 : decode cX9_told 111 = .ok (.ifCond .eq 14, 3) := by decide +kernel
theorem dX9_told_114 : decode cX9_told 114 = .ok (.aload_n 0, 1) := by decide +kernel
theorem dX9_told_115 : decode cX9_told 115 = .ok (.iload_n 1, 1) := by decide +kernel
theorem dX9_told_116 : decode cX9_told 116 = .ok (.bipush 10, 2) := by decide +kernel
theorem dX9_told_118 : decode cX9_told 118 = .ok (.isub, 1) := by decide +kernel
theorem dX9_told_119 : decode cX9_told 119 = .ok (.invokevirtual 239, 3) := by decide +kernel
theorem dX9_told_122 : decode cX9_told 122 = .ok (.goto 5, 3) := by decide +kernel
theorem dX9_told_125 : decode cX9_told 125 = .ok (.bipush (-2), 2) := by decide +kernel
theorem dX9_told_127 : decode cX9_told 127 = .ok (.ireturn, 1) := by decide +kernel
theorem dX9_tell_0 : decode cX9_tell 0 = .ok (.aload_n 0, 1) := by decide +kernel
theorem dX9_tell_1 : decode cX9_tell 1 = .ok (.getfield 10, 3) := by decide +kernel
theorem dX9_tell_4 : decode cX9_tell 4 = .ok (.getfield 70, 3) := by decide +kernel
theorem dX9_tell_7 : decode cX9_tell 7 = .ok (.iload_n 1, 1) := by decide +kernel
theorem dX9_tell_8 : decode cX9_tell 8 = .ok (.invokevirtual 98, 3) := by decide +kernel
theorem dX9_tell_11 : decode cX9_tell 11 = .ok (.ifCond .eq 21, 3) := by decide +kernel
theorem dX9_tell_14 : decode cX9_tell 14 = .ok (.aload_n 0, 1) := by decide +kernel
theorem dX9_tell_15 : decode cX9_tell 15 = .ok (.getfield 66, 3) := by decide +kernel
theorem dX9_tell_18 : decode cX9_tell 18 = .ok (.aload_n 0, 1) := by decide +kernel
theorem dX9_tell_19 : decode cX9_tell 19 = .ok (.getfield 10, 3) := by decide +kernel
theorem dX9_tell_22 : decode cX9_tell 22 = .ok (.getfield 70, 3) := by decide +kernel
theorem dX9_tell_25 : decode cX9_tell 25 = .ok (.iload_n 1, 1) := by decide +kernel
theorem dX9_tell_26 : decode cX9_tell 26 = .ok (.invokevirtual 242, 3) := by decide +kernel
theorem dX9_tell_29 : decode cX9_tell 29 = .ok (.goto 4, 3) := by decide +kernel
theorem dX9_tell_32 : decode cX9_tell 32 = .ok (.iconst (-1), 1) := by decide +kernel
theorem dX9_tell_33 : decode cX9_tell 33 = .ok (.ireturn, 1) := by decide +kernel
theorem dX9_address_0 : decode cX9_address 0 = .ok (.aload_n 0, 1) := by decide +kernel
theorem dX9_address_1 : decode cX9_address 1 = .ok (.getfield 10, 3) := by decide +kernel
theorem dX9_address_4 : decode cX9_address 4 = .ok (.getfield 70, 3) := by decide +kernel
theorem dX9_address_7 : decode cX9_address 7 = .ok (.iload_n 1, 1) := by decide +kernel
theorem dX9_address_8 : decode cX9_address 8 = .ok (.invokevirtual 98, 3) := by decide +kernel
theorem dX9_address_11 : decode cX9_address 11 = .ok (.ifCond .eq 21, 3) := by decide +kernel
theorem dX9_address_14 : decode cX9_address 14 = .ok (.aload_n 0, 1) := by decide +kernel
theorem dX9_address_15 : decode cX9_address 15 = .ok (.getfield 66, 3) := by decide +kernel
theorem dX9_address_18 : decode cX9_address 18 = .ok (.aload_n 0, 1) := by decide +kernel
theorem dX9_address_19 : decode cX9_address 19 = .ok (.getfield 10, 3) := by decide +kernel
theorem dX9_address_22 : decode cX9_address 22 = .ok (.getfield 70, 3) := by decide +kernel
theorem dX9_address_25 : decode cX9_address 25 = .ok (.iload_n 1, 1) := by decide +kernel
theorem dX9_address_26 : decode cX9_address 26 = .ok (.invokevirtual 245, 3) := by decide +kernel
theorem dX9_address_29 : decode cX9_address 29 = .ok (.goto 4, 3) := by decide +kernel
theorem dX9_address_32 : decode cX9_address 32 = .ok (.iconst (-1), 1) := by decide +kernel
theorem dX9_address_33 : decode cX9_address 33 = .ok (.ireturn, 1) := by decide +kernel
theorem dX9_trace_0 : decode cX9_trace 0 = .ok (.aload_n 0, 1) := by decide +kernel
theorem dX9_trace_1 : decode cX9_trace 1 = .ok (.getfield 66, 3) := by decide +kernel
theorem dX9_trace_4 : decode cX9_trace 4 = .ok (.getfield 248, 3) := by decide +kernel
theorem dX9_trace_7 : decode cX9_trace 7 = .ok (.ireturn, 1) := by decide +kernel
theorem dX9_knowsOperands_0 : decode cX9_knowsOperands 0 = .ok (.iload_n 1, 1) := by decide +kernel
theorem dX9_knowsOperands_1 : decode cX9_knowsOperands 1 = .ok (.tableswitch 166 1 11 #[59, 71, 71, 71, 71, 71, 71, 71, 105, 59, 117], 59) := by decide +kernel
theorem dX9_knowsOperands_60 : decode cX9_knowsOperands 60 = .ok (.aload_n 0, 1) := by decide +kernel
theorem dX9_knowsOperands_61 : decode cX9_knowsOperands 61 = .ok (.getfield 10, 3) := by decide +kernel
theorem dX9_knowsOperands_64 : decode cX9_knowsOperands 64 = .ok (.getfield 70, 3) := by decide +kernel
theorem dX9_knowsOperands_67 : decode cX9_knowsOperands 67 = .ok (.iload_n 2, 1) := by decide +kernel
theorem dX9_knowsOperands_68 : decode cX9_knowsOperands 68 = .ok (.invokevirtual 98, 3) := by decide +kernel
theorem dX9_knowsOperands_71 : decode cX9_knowsOperands 71 = .ok (.ireturn, 1) := by decide +kernel
theorem dX9_knowsOperands_72 : decode cX9_knowsOperands 72 = .ok (.aload_n 0, 1) := by decide +kernel
theorem dX9_knowsOperands_73 : decode cX9_knowsOperands 73 = .ok (.getfield 10, 3) := by decide +kernel
theorem dX9_knowsOperands_76 : decode cX9_knowsOperands 76 = .ok (.getfield 89, 3) := by decide +kernel
theorem dX9_knowsOperands_79 : decode cX9_knowsOperands 79 = .ok (.iload_n 2, 1) := by decide +kernel
theorem dX9_knowsOperands_80 : decode cX9_knowsOperands 80 = .ok (.invokevirtual 102, 3) := by decide +kernel
theorem dX9_knowsOperands_83 : decode cX9_knowsOperands 83 = .ok (.ifCond .eq 21, 3) := by decide +kernel
theorem dX9_knowsOperands_86 : decode cX9_knowsOperands 86 = .ok (.aload_n 0, 1) := by decide +kernel
theorem dX9_knowsOperands_87 : decode cX9_knowsOperands 87 = .ok (.getfield 10, 3) := by decide +kernel
theorem dX9_knowsOperands_90 : decode cX9_knowsOperands 90 = .ok (.getfield 89, 3) := by decide +kernel
theorem dX9_knowsOperands_93 : decode cX9_knowsOperands 93 = .ok (.iload_n 3, 1) := by decide +kernel
theorem dX9_knowsOperands_94 : decode cX9_knowsOperands 94 = .ok (.invokevirtual 102, 3) := by decide +kernel
theorem dX9_knowsOperands_97 : decode cX9_knowsOperands 97 = .ok (.ifCond .eq 7, 3) := by decide +kernel
theorem dX9_knowsOperands_100 : decode cX9_knowsOperands 100 = .ok (.iconst 1, 1) := by decide +kernel
theorem dX9_knowsOperands_101 : decode cX9_knowsOperands 101 = .ok (.goto 4, 3) := by decide +kernel
theorem dX9_knowsOperands_104 : decode cX9_knowsOperands 104 = .ok (.iconst 0, 1) := by decide +kernel
theorem dX9_knowsOperands_105 : decode cX9_knowsOperands 105 = .ok (.ireturn, 1) := by decide +kernel
theorem dX9_knowsOperands_106 : decode cX9_knowsOperands 106 = .ok (.aload_n 0, 1) := by decide +kernel
theorem dX9_knowsOperands_107 : decode cX9_knowsOperands 107 = .ok (.getfield 10, 3) := by decide +kernel
theorem dX9_knowsOperands_110 : decode cX9_knowsOperands 110 = .ok (.getfield 89, 3) := by decide +kernel
theorem dX9_knowsOperands_113 : decode cX9_knowsOperands 113 = .ok (.iload_n 2, 1) := by decide +kernel
theorem dX9_knowsOperands_114 : decode cX9_knowsOperands 114 = .ok (.invokevirtual 102, 3) := by decide +kernel
theorem dX9_knowsOperands_117 : decode cX9_knowsOperands 117 = .ok (.ireturn, 1) := by decide +kernel
theorem dX9_knowsOperands_118 : decode cX9_knowsOperands 118 = .ok (.aload_n 0, 1) := by decide +kernel
theorem dX9_knowsOperands_119 : decode cX9_knowsOperands 119 = .ok (.getfield 10, 3) := by decide +kernel
theorem dX9_knowsOperands_122 : decode cX9_knowsOperands 122 = .ok (.getfield 89, 3) := by decide +kernel
theorem dX9_knowsOperands_125 : decode cX9_knowsOperands 125 = .ok (.iload_n 2, 1) := by decide +kernel
theorem dX9_knowsOperands_126 : decode cX9_knowsOperands 126 = .ok (.invokevirtual 102, 3) := by decide +kernel
theorem dX9_knowsOperands_129 : decode cX9_knowsOperands 129 = .ok (.ifCond .eq 36, 3) := by decide +kernel
theorem dX9_knowsOperands_132 : decode cX9_knowsOperands 132 = .ok (.aload_n 0, 1) := by decide +kernel
theorem dX9_knowsOperands_133 : decode cX9_knowsOperands 133 = .ok (.getfield 10, 3) := by decide +kernel
theorem dX9_knowsOperands_136 : decode cX9_knowsOperands 136 = .ok (.getfield 89, 3) := by decide +kernel
theorem dX9_knowsOperands_139 : decode cX9_knowsOperands 139 = .ok (.iload_n 3, 1) := by decide +kernel
theorem dX9_knowsOperands_140 : decode cX9_knowsOperands 140 = .ok (.invokevirtual 102, 3) := by decide +kernel
theorem dX9_knowsOperands_143 : decode cX9_knowsOperands 143 = .ok (.ifCond .eq 22, 3) := by decide +kernel
theorem dX9_knowsOperands_146 : decode cX9_knowsOperands 146 = .ok (.aload_n 0, 1) := by decide +kernel
theorem dX9_knowsOperands_147 : decode cX9_knowsOperands 147 = .ok (.getfield 10, 3) := by decide +kernel
theorem dX9_knowsOperands_150 : decode cX9_knowsOperands 150 = .ok (.getfield 89, 3) := by decide +kernel
theorem dX9_knowsOperands_153 : decode cX9_knowsOperands 153 = .ok (.iload 4, 2) := by decide +kernel
theorem dX9_knowsOperands_155 : decode cX9_knowsOperands 155 = .ok (.invokevirtual 102, 3) := by decide +kernel
theorem dX9_knowsOperands_158 : decode cX9_knowsOperands 158 = .ok (.ifCond .eq 7, 3) := by decide +kernel
theorem dX9_knowsOperands_161 : decode cX9_knowsOperands 161 = .ok (.iconst 1, 1) := by decide +kernel
theorem dX9_knowsOperands_162 : decode cX9_knowsOperands 162 = .ok (.goto 4, 3) := by decide +kernel
theorem dX9_knowsOperands_165 : decode cX9_knowsOperands 165 = .ok (.iconst 0, 1) := by decide +kernel
theorem dX9_knowsOperands_166 : decode cX9_knowsOperands 166 = .ok (.ireturn, 1) := by decide +kernel
theorem dX9_knowsOperands_167 : decode cX9_knowsOperands 167 = .ok (.iconst 1, 1) := by decide +kernel
theorem dX9_knowsOperands_168 : decode cX9_knowsOperands 168 = .ok (.ireturn, 1) := by decide +kernel
theorem dX9_hasDraft_0 : decode cX9_hasDraft 0 = .ok (.iload_n 1, 1) := by decide +kernel
theorem dX9_hasDraft_1 : decode cX9_hasDraft 1 = .ok (.ifCond .lt 12, 3) := by decide +kernel
theorem dX9_hasDraft_4 : decode cX9_hasDraft 4 = .ok (.iload_n 1, 1) := by decide +kernel
theorem dX9_hasDraft_5 : decode cX9_hasDraft 5 = .ok (.iconst 4, 1) := by decide +kernel
theorem dX9_hasDraft_6 : decode cX9_hasDraft 6 = .ok (.if_icmp .ge 7, 3) := by decide +kernel
theorem dX9_hasDraft_9 : decode cX9_hasDraft 9 = .ok (.iconst 1, 1) := by decide +kernel
theorem dX9_hasDraft_10 : decode cX9_hasDraft 10 = .ok (.goto 4, 3) := by decide +kernel
theorem dX9_hasDraft_13 : decode cX9_hasDraft 13 = .ok (.iconst 0, 1) := by decide +kernel
theorem dX9_hasDraft_14 : decode cX9_hasDraft 14 = .ok (.ireturn, 1) := by decide +kernel
theorem dX9_hasPlace_0 : decode cX9_hasPlace 0 = .ok (.aload_n 0, 1) := by decide +kernel
theorem dX9_hasPlace_1 : decode cX9_hasPlace 1 = .ok (.iload_n 1, 1) := by decide +kernel
theorem dX9_hasPlace_2 : decode cX9_hasPlace 2 = .ok (.invokevirtual 182, 3) := by decide +kernel
theorem dX9_hasPlace_5 : decode cX9_hasPlace 5 = .ok (.ifCond .eq 21, 3) := by decide +kernel
theorem dX9_hasPlace_8 : decode cX9_hasPlace 8 = .ok (.aload_n 0, 1) := by decide +kernel
theorem dX9_hasPlace_9 : decode cX9_hasPlace 9 = .ok (.getfield 10, 3) := by decide +kernel
theorem dX9_hasPlace_12 : decode cX9_hasPlace 12 = .ok (.getfield 70, 3) := by decide +kernel
theorem dX9_hasPlace_15 : decode cX9_hasPlace 15 = .ok (.iload_n 2, 1) := by decide +kernel
theorem dX9_hasPlace_16 : decode cX9_hasPlace 16 = .ok (.invokevirtual 98, 3) := by decide +kernel
theorem dX9_hasPlace_19 : decode cX9_hasPlace 19 = .ok (.ifCond .eq 7, 3) := by decide +kernel
theorem dX9_hasPlace_22 : decode cX9_hasPlace 22 = .ok (.iconst 1, 1) := by decide +kernel
theorem dX9_hasPlace_23 : decode cX9_hasPlace 23 = .ok (.goto 4, 3) := by decide +kernel
theorem dX9_hasPlace_26 : decode cX9_hasPlace 26 = .ok (.iconst 0, 1) := by decide +kernel
theorem dX9_hasPlace_27 : decode cX9_hasPlace 27 = .ok (.ireturn, 1) := by decide +kernel
theorem dX9_lockedBits_0 : decode cX9_lockedBits 0 = .ok (.aload_n 0, 1) := by decide +kernel
theorem dX9_lockedBits_1 : decode cX9_lockedBits 1 = .ok (.getfield 52, 3) := by decide +kernel
theorem dX9_lockedBits_4 : decode cX9_lockedBits 4 = .ok (.iload_n 1, 1) := by decide +kernel
theorem dX9_lockedBits_5 : decode cX9_lockedBits 5 = .ok (.invokevirtual 251, 3) := by decide +kernel
theorem dX9_lockedBits_8 : decode cX9_lockedBits 8 = .ok (.aload_n 0, 1) := by decide +kernel
theorem dX9_lockedBits_9 : decode cX9_lockedBits 9 = .ok (.getfield 10, 3) := by decide +kernel
theorem dX9_lockedBits_12 : decode cX9_lockedBits 12 = .ok (.getfield 70, 3) := by decide +kernel
theorem dX9_lockedBits_15 : decode cX9_lockedBits 15 = .ok (.invokevirtual 231, 3) := by decide +kernel
theorem dX9_lockedBits_18 : decode cX9_lockedBits 18 = .ok (.iand, 1) := by decide +kernel
theorem dX9_lockedBits_19 : decode cX9_lockedBits 19 = .ok (.ireturn, 1) := by decide +kernel
theorem dX9_isHolding_0 : decode cX9_isHolding 0 = .ok (.aload_n 0, 1) := by decide +kernel
theorem dX9_isHolding_1 : decode cX9_isHolding 1 = .ok (.getfield 52, 3) := by decide +kernel
theorem dX9_isHolding_4 : decode cX9_isHolding 4 = .ok (.getfield 203, 3) := by decide +kernel
theorem dX9_isHolding_7 : decode cX9_isHolding 7 = .ok (.iload_n 1, 1) := by decide +kernel
theorem dX9_isHolding_8 : decode cX9_isHolding 8 = .ok (.baload, 1) := by decide +kernel
theorem dX9_isHolding_9 : decode cX9_isHolding 9 = .ok (.ifCond .eq 5, 3) := by decide +kernel
theorem dX9_isHolding_12 : decode cX9_isHolding 12 = .ok (.iconst 0, 1) := by decide +kernel
theorem dX9_isHolding_13 : decode cX9_isHolding 13 = .ok (.ireturn, 1) := by decide +kernel
theorem dX9_isHolding_14 : decode cX9_isHolding 14 = .ok (.aload_n 0, 1) := by decide +kernel
theorem dX9_isHolding_15 : decode cX9_isHolding 15 = .ok (.getfield 38, 3) := by decide +kernel
theorem dX9_isHolding_18 : decode cX9_isHolding 18 = .ok (.aload_n 0, 1) := by decide +kernel
theorem dX9_isHolding_19 : decode cX9_isHolding 19 = .ok (.getfield 10, 3) := by decide +kernel
theorem dX9_isHolding_22 : decode cX9_isHolding 22 = .ok (.aload_n 0, 1) := by decide +kernel
theorem dX9_isHolding_23 : decode cX9_isHolding 23 = .ok (.getfield 25, 3) := by decide +kernel
theorem dX9_isHolding_26 : decode cX9_isHolding 26 = .ok (.aload_n 0, 1) := by decide +kernel
theorem dX9_isHolding_27 : decode cX9_isHolding 27 = .ok (.getfield 52, 3) := by decide +kernel
theorem dX9_isHolding_30 : decode cX9_isHolding 30 = .ok (.getfield 212, 3) := by decide +kernel
theorem dX9_isHolding_33 : decode cX9_isHolding 33 = .ok (.iload_n 1, 1) := by decide +kernel
theorem dX9_isHolding_34 : decode cX9_isHolding 34 = .ok (.iaload, 1) := by decide +kernel
theorem dX9_isHolding_35 : decode cX9_isHolding 35 = .ok (.aaload, 1) := by decide +kernel
theorem dX9_isHolding_36 : decode cX9_isHolding 36 = .ok (.invokevirtual 168, 3) := by decide +kernel
theorem dX9_isHolding_39 : decode cX9_isHolding 39 = .ok (.aload_n 0, 1) := by decide +kernel
theorem dX9_isHolding_40 : decode cX9_isHolding 40 = .ok (.getfield 52, 3) := by decide +kernel
theorem dX9_isHolding_43 : decode cX9_isHolding 43 = .ok (.iload_n 1, 1) := by decide +kernel
theorem dX9_isHolding_44 : decode cX9_isHolding 44 = .ok (.aload_n 0, 1) := by decide +kernel
theorem dX9_isHolding_45 : decode cX9_isHolding 45 = .ok (.getfield 10, 3) := by decide +kernel
theorem dX9_isHolding_48 : decode cX9_isHolding 48 = .ok (.getfield 70, 3) := by decide +kernel
theorem dX9_isHolding_51 : decode cX9_isHolding 51 = .ok (.aload_n 0, 1) := by decide +kernel
theorem dX9_isHolding_52 : decode cX9_isHolding 52 = .ok (.getfield 38, 3) := by decide +kernel
theorem dX9_isHolding_55 : decode cX9_isHolding 55 = .ok (.invokevirtual 254, 3) := by decide +kernel
theorem dX9_isHolding_58 : decode cX9_isHolding 58 = .ok (.ireturn, 1) := by decide +kernel
theorem dX9_countHolding_0 : decode cX9_countHolding 0 = .ok (.iconst 0, 1) := by decide +kernel
theorem dX9_countHolding_1 : decode cX9_countHolding 1 = .ok (.istore_n 1, 1) := by decide +kernel
theorem dX9_countHolding_2 : decode cX9_countHolding 2 = .ok (.iconst 0, 1) := by decide +kernel
theorem dX9_countHolding_3 : decode cX9_countHolding 3 = .ok (.istore_n 2, 1) := by decide +kernel
theorem dX9_countHolding_4 : decode cX9_countHolding 4 = .ok (.iload_n 2, 1) := by decide +kernel
theorem dX9_countHolding_5 : decode cX9_countHolding 5 = .ok (.aload_n 0, 1) := by decide +kernel
theorem dX9_countHolding_6 : decode cX9_countHolding 6 = .ok (.getfield 52, 3) := by decide +kernel
theorem dX9_countHolding_9 : decode cX9_countHolding 9 = .ok (.getfield 235, 3) := by decide +kernel
theorem dX9_countHolding_12 : decode cX9_countHolding 12 = .ok (.if_icmp .ge 20, 3) := by decide +kernel
theorem dX9_countHolding_15 : decode cX9_countHolding 15 = .ok (.iload_n 1, 1) := by decide +kernel
theorem dX9_countHolding_16 : decode cX9_countHolding 16 = .ok (.aload_n 0, 1) := by decide +kernel
theorem dX9_countHolding_17 : decode cX9_countHolding 17 = .ok (.iload_n 2, 1) := by decide +kernel
theorem dX9_countHolding_18 : decode cX9_countHolding 18 = .ok (.invokevirtual 217, 3) := by decide +kernel
theorem dX9_countHolding_21 : decode cX9_countHolding 21 = .ok (.invokestatic 155, 3) := by decide +kernel
theorem dX9_countHolding_24 : decode cX9_countHolding 24 = .ok (.iadd, 1) := by decide +kernel
theorem dX9_countHolding_25 : decode cX9_countHolding 25 = .ok (.istore_n 1, 1) := by decide +kernel
theorem dX9_countHolding_26 : decode cX9_countHolding 26 = .ok (.iinc 2 1, 3) := by decide +kernel
theorem dX9_countHolding_29 : decode cX9_countHolding 29 = .ok (.goto (-25), 3) := by decide +kernel
theorem dX9_countHolding_32 : decode cX9_countHolding 32 = .ok (.iload_n 1, 1) := by decide +kernel
theorem dX9_countHolding_33 : decode cX9_countHolding 33 = .ok (.ireturn, 1) := by decide +kernel
theorem dX9_countAnswers_0 : decode cX9_countAnswers 0 = .ok (.iconst 0, 1) := by decide +kernel
theorem dX9_countAnswers_1 : decode cX9_countAnswers 1 = .ok (.istore_n 2, 1) := by decide +kernel
theorem dX9_countAnswers_2 : decode cX9_countAnswers 2 = .ok (.iconst 0, 1) := by decide +kernel
theorem dX9_countAnswers_3 : decode cX9_countAnswers 3 = .ok (.istore_n 3, 1) := by decide +kernel
theorem dX9_countAnswers_4 : decode cX9_countAnswers 4 = .ok (.iload_n 3, 1) := by decide +kernel
theorem dX9_countAnswers_5 : decode cX9_countAnswers 5 = .ok (.aload_n 0, 1) := by decide +kernel
theorem dX9_countAnswers_6 : decode cX9_countAnswers 6 = .ok (.getfield 10, 3) := by decide +kernel
theorem dX9_countAnswers_9 : decode cX9_countAnswers 9 = .ok (.getfield 70, 3) := by decide +kernel
theorem dX9_countAnswers_12 : decode cX9_countAnswers 12 = .ok (.getfield 185, 3) := by decide +kernel
theorem dX9_countAnswers_15 : decode cX9_countAnswers 15 = .ok (.if_icmp .ge 33, 3) := by decide +kernel
theorem dX9_countAnswers_18 : decode cX9_countAnswers 18 = .ok (.iload_n 2, 1) := by decide +kernel
theorem dX9_countAnswers_19 : decode cX9_countAnswers 19 = .ok (.aload_n 0, 1) := by decide +kernel
theorem dX9_countAnswers_20 : decode cX9_countAnswers 20 = .ok (.getfield 25, 3) := by decide +kernel
theorem dX9_countAnswers_23 : decode cX9_countAnswers 23 = .ok (.iload_n 1, 1) := by decide +kernel
theorem dX9_countAnswers_24 : decode cX9_countAnswers 24 = .ok (.aaload, 1) := by decide +kernel
theorem dX9_countAnswers_25 : decode cX9_countAnswers 25 = .ok (.iload_n 3, 1) := by decide +kernel
theorem dX9_countAnswers_26 : decode cX9_countAnswers 26 = .ok (.iaload, 1) := by decide +kernel
theorem dX9_countAnswers_27 : decode cX9_countAnswers 27 = .ok (.ldc 28, 2) := by decide +kernel
theorem dX9_countAnswers_29 : decode cX9_countAnswers 29 = .ok (.if_icmp .eq 7, 3) := by decide +kernel
theorem dX9_countAnswers_32 : decode cX9_countAnswers 32 = .ok (.iconst 1, 1) := by decide +kernel
theorem dX9_countAnswers_33 : decode cX9_countAnswers 33 = .ok (.goto 4, 3) := by decide +kernel
theorem dX9_countAnswers_36 : decode cX9_countAnswers 36 = .ok (.iconst 0, 1) := by decide +kernel
theorem dX9_countAnswers_37 : decode cX9_countAnswers 37 = .ok (.invokestatic 155, 3) := by decide +kernel
theorem dX9_countAnswers_40 : decode cX9_countAnswers 40 = .ok (.iadd, 1) := by decide +kernel
theorem dX9_countAnswers_41 : decode cX9_countAnswers 41 = .ok (.istore_n 2, 1) := by decide +kernel
theorem dX9_countAnswers_42 : decode cX9_countAnswers 42 = .ok (.iinc 3 1, 3) := by decide +kernel
theorem dX9_countAnswers_45 : decode cX9_countAnswers 45 = .ok (.goto (-41), 3) := by decide +kernel
theorem dX9_countAnswers_48 : decode cX9_countAnswers 48 = .ok (.iload_n 2, 1) := by decide +kernel
theorem dX9_countAnswers_49 : decode cX9_countAnswers 49 = .ok (.ireturn, 1) := by decide +kernel
theorem dX9_hasBit_0 : decode cX9_hasBit 0 = .ok (.iload_n 0, 1) := by decide +kernel
theorem dX9_hasBit_1 : decode cX9_hasBit 1 = .ok (.iload_n 1, 1) := by decide +kernel
theorem dX9_hasBit_2 : decode cX9_hasBit 2 = .ok (.ishr, 1) := by decide +kernel
theorem dX9_hasBit_3 : decode cX9_hasBit 3 = .ok (.iconst 1, 1) := by decide +kernel
theorem dX9_hasBit_4 : decode cX9_hasBit 4 = .ok (.iand, 1) := by decide +kernel
theorem dX9_hasBit_5 : decode cX9_hasBit 5 = .ok (.ifCond .eq 7, 3) := by decide +kernel
theorem dX9_hasBit_8 : decode cX9_hasBit 8 = .ok (.iconst 1, 1) := by decide +kernel
theorem dX9_hasBit_9 : decode cX9_hasBit 9 = .ok (.goto 4, 3) := by decide +kernel
theorem dX9_hasBit_12 : decode cX9_hasBit 12 = .ok (.iconst 0, 1) := by decide +kernel
theorem dX9_hasBit_13 : decode cX9_hasBit 13 = .ok (.ireturn, 1) := by decide +kernel
theorem dX9_truth_0 : decode cX9_truth 0 = .ok (.iload_n 0, 1) := by decide +kernel
theorem dX9_truth_1 : decode cX9_truth 1 = .ok (.ifCond .eq 7, 3) := by decide +kernel
theorem dX9_truth_4 : decode cX9_truth 4 = .ok (.iconst 1, 1) := by decide +kernel
theorem dX9_truth_5 : decode cX9_truth 5 = .ok (.goto 4, 3) := by decide +kernel
theorem dX9_truth_8 : decode cX9_truth 8 = .ok (.iconst 0, 1) := by decide +kernel
theorem dX9_truth_9 : decode cX9_truth 9 = .ok (.ireturn, 1) := by decide +kernel
theorem dX9_isYes_0 : decode cX9_isYes 0 = .ok (.iload_n 0, 1) := by decide +kernel
theorem dX9_isYes_1 : decode cX9_isYes 1 = .ok (.ldc 28, 2) := by decide +kernel
theorem dX9_isYes_3 : decode cX9_isYes 3 = .ok (.if_icmp .eq 11, 3) := by decide +kernel
theorem dX9_isYes_6 : decode cX9_isYes 6 = .ok (.iload_n 0, 1) := by decide +kernel
theorem dX9_isYes_7 : decode cX9_isYes 7 = .ok (.ifCond .eq 7, 3) := by decide +kernel
theorem dX9_isYes_10 : decode cX9_isYes 10 = .ok (.iconst 1, 1) := by decide +kernel
theorem dX9_isYes_11 : decode cX9_isYes 11 = .ok (.goto 4, 3) := by decide +kernel
theorem dX9_isYes_14 : decode cX9_isYes 14 = .ok (.iconst 0, 1) := by decide +kernel
theorem dX9_isYes_15 : decode cX9_isYes 15 = .ok (.ireturn, 1) := by decide +kernel
end
section
theorem dX10_init_0 : decode cX10_init 0 = .ok (.aload_n 0, 1) := by decide +kernel
theorem dX10_init_1 : decode cX10_init 1 = .ok (.invokespecial 1, 3) := by decide +kernel
theorem dX10_init_4 : decode cX10_init 4 = .ok (.aload_n 0, 1) := by decide +kernel
theorem dX10_init_5 : decode cX10_init 5 = .ok (.bipush 12, 2) := by decide +kernel
theorem dX10_init_7 : decode cX10_init 7 = .ok (.newarray .int, 2) := by decide +kernel
theorem dX10_init_9 : decode cX10_init 9 = .ok (.putfield 7, 3) := by decide +kernel
theorem dX10_init_12 : decode cX10_init 12 = .ok (.aload_n 0, 1) := by decide +kernel
theorem dX10_init_13 : decode cX10_init 13 = .ok (.bipush 12, 2) := by decide +kernel
theorem dX10_init_15 : decode cX10_init 15 = .ok (.newarray .int, 2) := by decide +kernel
theorem dX10_init_17 : decode cX10_init 17 = .ok (.putfield 13, 3) := by decide +kernel
theorem dX10_init_20 : decode cX10_init 20 = .ok (.aload_n 0, 1) := by decide +kernel
theorem dX10_init_21 : decode cX10_init 21 = .ok (.bipush 12, 2) := by decide +kernel
theorem dX10_init_23 : decode cX10_init 23 = .ok (.newarray .int, 2) := by decide +kernel
theorem dX10_init_25 : decode cX10_init 25 = .ok (.putfield 16, 3) := by decide +kernel
theorem dX10_init_28 : decode cX10_init 28 = .ok (.aload_n 0, 1) := by decide +kernel
theorem dX10_init_29 : decode cX10_init 29 = .ok (.bipush 48, 2) := by decide +kernel
theorem dX10_init_31 : decode cX10_init 31 = .ok (.newarray .int, 2) := by decide +kernel
theorem dX10_init_33 : decode cX10_init 33 = .ok (.putfield 19, 3) := by decide +kernel
theorem dX10_init_36 : decode cX10_init 36 = .ok (.aload_n 0, 1) := by decide +kernel
theorem dX10_init_37 : decode cX10_init 37 = .ok (.bipush 50, 2) := by decide +kernel
theorem dX10_init_39 : decode cX10_init 39 = .ok (.newarray .int, 2) := by decide +kernel
theorem dX10_init_41 : decode cX10_init 41 = .ok (.putfield 22, 3) := by decide +kernel
theorem dX10_init_44 : decode cX10_init 44 = .ok (.aload_n 0, 1) := by decide +kernel
theorem dX10_init_45 : decode cX10_init 45 = .ok (.bipush 50, 2) := by decide +kernel
theorem dX10_init_47 : decode cX10_init 47 = .ok (.newarray .int, 2) := by decide +kernel
theorem dX10_init_49 : decode cX10_init 49 = .ok (.putfield 25, 3) := by decide +kernel
theorem dX10_init_52 : decode cX10_init 52 = .ok (.aload_n 0, 1) := by decide +kernel
theorem dX10_init_53 : decode cX10_init 53 = .ok (.bipush 50, 2) := by decide +kernel
theorem dX10_init_55 : decode cX10_init 55 = .ok (.newarray .int, 2) := by decide +kernel
theorem dX10_init_57 : decode cX10_init 57 = .ok (.putfield 28, 3) := by decide +kernel
theorem dX10_init_60 : decode cX10_init 60 = .ok (.aload_n 0, 1) := by decide +kernel
theorem dX10_init_61 : decode cX10_init 61 = .ok (.bipush 50, 2) := by decide +kernel
theorem dX10_init_63 : decode cX10_init 63 = .ok (.newarray .int, 2) := by decide +kernel
theorem dX10_init_65 : decode cX10_init 65 = .ok (.putfield 31, 3) := by decide +kernel
theorem dX10_init_68 : decode cX10_init 68 = .ok (.aload_n 0, 1) := by decide +kernel
theorem dX10_init_69 : decode cX10_init 69 = .ok (.bipush 12, 2) := by decide +kernel
theorem dX10_init_71 : decode cX10_init 71 = .ok (.newarray .int, 2) := by decide +kernel
theorem dX10_init_73 : decode cX10_init 73 = .ok (.putfield 34, 3) := by decide +kernel
theorem dX10_init_76 : decode cX10_init 76 = .ok (.aload_n 0, 1) := by decide +kernel
theorem dX10_init_77 : decode cX10_init 77 = .ok (.bipush 12, 2) := by decide +kernel
theorem dX10_init_79 : decode cX10_init 79 = .ok (.newarray .int, 2) := by decide +kernel
theorem dX10_init_81 : decode cX10_init 81 = .ok (.putfield 37, 3) := by decide +kernel
theorem dX10_init_84 : decode cX10_init 84 = .ok (.aload_n 0, 1) := by decide +kernel
theorem dX10_init_85 : decode cX10_init 85 = .ok (.bipush 12, 2) := by decide +kernel
theorem dX10_init_87 : decode cX10_init 87 = .ok (.newarray .long, 2) := by decide +kernel
theorem dX10_init_89 : decode cX10_init 89 = .ok (.putfield 40, 3) := by decide +kernel
theorem dX10_init_92 : decode cX10_init 92 = .ok (.aload_n 0, 1) := by decide +kernel
theorem dX10_init_93 : decode cX10_init 93 = .ok (.bipush 12, 2) := by decide +kernel
theorem dX10_init_95 : decode cX10_init 95 = .ok (.newarray .int, 2) := by decide +kernel
theorem dX10_init_97 : decode cX10_init 97 = .ok (.putfield 44, 3) := by decide +kernel
theorem dX10_init_100 : decode cX10_init 100 = .ok (.aload_n 0, 1) := by decide +kernel
theorem dX10_init_101 : decode cX10_init 101 = .ok (.bipush 12, 2) := by decide +kernel
theorem dX10_init_103 : decode cX10_init 103 = .ok (.newarray .int, 2) := by decide +kernel
theorem dX10_init_105 : decode cX10_init 105 = .ok (.putfield 47, 3) := by decide +kernel
theorem dX10_init_108 : decode cX10_init 108 = .ok (.aload_n 0, 1) := by decide +kernel
theorem dX10_init_109 : decode cX10_init 109 = .ok (.bipush 12, 2) := by decide +kernel
theorem dX10_init_111 : decode cX10_init 111 = .ok (.newarray .int, 2) := by decide +kernel
theorem dX10_init_113 : decode cX10_init 113 = .ok (.putfield 50, 3) := by decide +kernel
theorem dX10_init_116 : decode cX10_init 116 = .ok (.aload_n 0, 1) := by decide +kernel
theorem dX10_init_117 : decode cX10_init 117 = .ok (.bipush 12, 2) := by decide +kernel
theorem dX10_init_119 : decode cX10_init 119 = .ok (.newarray .boolean, 2) := by decide +kernel
theorem dX10_init_121 : decode cX10_init 121 = .ok (.putfield 53, 3) := by decide +kernel
theorem dX10_init_124 : decode cX10_init 124 = .ok (.aload_n 0, 1) := by decide +kernel
theorem dX10_init_125 : decode cX10_init 125 = .ok (.bipush 12, 2) := by decide +kernel
theorem dX10_init_127 : decode cX10_init 127 = .ok (.newarray .int, 2) := by decide +kernel
theorem dX10_init_129 : decode cX10_init 129 = .ok (.putfield 57, 3) := by decide +kernel
theorem dX10_init_132 : decode cX10_init 132 = .ok (.aload_n 0, 1) := by decide +kernel
theorem dX10_init_133 : decode cX10_init 133 = .ok (.bipush 12, 2) := by decide +kernel
theorem dX10_init_135 : decode cX10_init 135 = .ok (.newarray .int, 2) := by decide +kernel
theorem dX10_init_137 : decode cX10_init 137 = .ok (.putfield 60, 3) := by decide +kernel
theorem dX10_init_140 : decode cX10_init 140 = .ok (.aload_n 0, 1) := by decide +kernel
theorem dX10_init_141 : decode cX10_init 141 = .ok (.bipush 50, 2) := by decide +kernel
theorem dX10_init_143 : decode cX10_init 143 = .ok (.newarray .int, 2) := by decide +kernel
theorem dX10_init_145 : decode cX10_init 145 = .ok (.putfield 63, 3) := by decide +kernel
theorem dX10_init_148 : decode cX10_init 148 = .ok (.aload_n 0, 1) := by decide +kernel
theorem dX10_init_149 : decode cX10_init 149 = .ok (.bipush 48, 2) := by decide +kernel
theorem dX10_init_151 : decode cX10_init 151 = .ok (.newarray .int, 2) := by decide +kernel
theorem dX10_init_153 : decode cX10_init 153 = .ok (.putfield 66, 3) := by decide +kernel
theorem dX10_init_156 : decode cX10_init 156 = .ok (.aload_n 0, 1) := by decide +kernel
theorem dX10_init_157 : decode cX10_init 157 = .ok (.bipush 12, 2) := by decide +kernel
theorem dX10_init_159 : decode cX10_init 159 = .ok (.newarray .int, 2) := by decide +kernel
theorem dX10_init_161 : decode cX10_init 161 = .ok (.putfield 69, 3) := by decide +kernel
theorem dX10_init_164 : decode cX10_init 164 = .ok (.aload_n 0, 1) := by decide +kernel
theorem dX10_init_165 : decode cX10_init 165 = .ok (.bipush 6, 2) := by decide +kernel
theorem dX10_init_167 : decode cX10_init 167 = .ok (.newarray .int, 2) := by decide +kernel
theorem dX10_init_169 : decode cX10_init 169 = .ok (.putfield 72, 3) := by decide +kernel
theorem dX10_init_172 : decode cX10_init 172 = .ok (.aload_n 0, 1) := by decide +kernel
theorem dX10_init_173 : decode cX10_init 173 = .ok (.bipush 6, 2) := by decide +kernel
theorem dX10_init_175 : decode cX10_init 175 = .ok (.newarray .int, 2) := by decide +kernel
theorem dX10_init_177 : decode cX10_init 177 = .ok (.putfield 75, 3) := by decide +kernel
theorem dX10_init_180 : decode cX10_init 180 = .ok (.aload_n 0, 1) := by decide +kernel
theorem dX10_init_181 : decode cX10_init 181 = .ok (.bipush 6, 2) := by decide +kernel
theorem dX10_init_183 : decode cX10_init 183 = .ok (.newarray .boolean, 2) := by decide +kernel
theorem dX10_init_185 : decode cX10_init 185 = .ok (.putfield 78, 3) := by decide +kernel
theorem dX10_init_188 : decode cX10_init 188 = .ok (.aload_n 0, 1) := by decide +kernel
theorem dX10_init_189 : decode cX10_init 189 = .ok (.bipush 72, 2) := by decide +kernel
theorem dX10_init_191 : decode cX10_init 191 = .ok (.newarray .int, 2) := by decide +kernel
theorem dX10_init_193 : decode cX10_init 193 = .ok (.putfield 81, 3) := by decide +kernel
theorem dX10_init_196 : decode cX10_init 196 = .ok (.aload_n 0, 1) := by decide +kernel
theorem dX10_init_197 : decode cX10_init 197 = .ok (.bipush 72, 2) := by decide +kernel
theorem dX10_init_199 : decode cX10_init 199 = .ok (.newarray .int, 2) := by decide +kernel
theorem dX10_init_201 : decode cX10_init 201 = .ok (.putfield 84, 3) := by decide +kernel
theorem dX10_init_204 : decode cX10_init 204 = .ok (.aload_n 0, 1) := by decide +kernel
theorem dX10_init_205 : decode cX10_init 205 = .ok (.bipush 12, 2) := by decide +kernel
theorem dX10_init_207 : decode cX10_init 207 = .ok (.newarray .int, 2) := by decide +kernel
theorem dX10_init_209 : decode cX10_init 209 = .ok (.putfield 87, 3) := by decide +kernel
theorem dX10_init_212 : decode cX10_init 212 = .ok (.iconst 0, 1) := by decide +kernel
theorem dX10_init_213 : decode cX10_init 213 = .ok (.istore_n 1, 1) := by decide +kernel
theorem dX10_init_214 : decode cX10_init 214 = .ok (.iload_n 1, 1) := by decide +kernel
theorem dX10_init_215 : decode cX10_init 215 = .ok (.bipush 48, 2) := by decide +kernel
theorem dX10_init_217 : decode cX10_init 217 = .ok (.if_icmp .ge 39, 3) := by decide +kernel
theorem dX10_init_220 : decode cX10_init 220 = .ok (.aload_n 0, 1) := by decide +kernel
theorem dX10_init_221 : decode cX10_init 221 = .ok (.getfield 66, 3) := by decide +kernel
theorem dX10_init_224 : decode cX10_init 224 = .ok (.iload_n 1, 1) := by decide +kernel
theorem dX10_init_225 : decode cX10_init 225 = .ok (.ldc 90, 2) := by decide +kernel
theorem dX10_init_227 : decode cX10_init 227 = .ok (.iastore, 1) := by decide +kernel
theorem dX10_init_228 : decode cX10_init 228 = .ok (.aload_n 0, 1) := by decide +kernel
theorem dX10_init_229 : decode cX10_init 229 = .ok (.getfield 87, 3) := by decide +kernel
theorem dX10_init_232 : decode cX10_init 232 = .ok (.iload_n 1, 1) := by decide +kernel
theorem dX10_init_233 : decode cX10_init 233 = .ok (.bipush 12, 2) := by decide +kernel
theorem dX10_init_235 : decode cX10_init 235 = .ok (.irem, 1) := by decide +kernel
theorem dX10_init_236 : decode cX10_init 236 = .ok (.ldc 90, 2) := by decide +kernel
theorem dX10_init_238 : decode cX10_init 238 = .ok (.iastore, 1) := by decide +kernel
theorem dX10_init_239 : decode cX10_init 239 = .ok (.aload_n 0, 1) := by decide +kernel
theorem dX10_init_240 : decode cX10_init 240 = .ok (.getfield 50, 3) := by decide +kernel
theorem dX10_init_243 : decode cX10_init 243 = .ok (.iload_n 1, 1) := by decide +kernel
theorem dX10_init_244 : decode cX10_init 244 = .ok (.bipush 12, 2) := by decide +kernel
theorem dX10_init_246 : decode cX10_init 246 = .ok (.irem, 1) := by decide +kernel
theorem dX10_init_247 : decode cX10_init 247 = .ok (.ldc 90, 2) := by decide +kernel
theorem dX10_init_249 : decode cX10_init 249 = .ok (.iastore, 1) := by decide +kernel
theorem dX10_init_250 : decode cX10_init 250 = .ok (.iinc 1 1, 3) := by decide +kernel
theorem dX10_init_253 : decode cX10_init 253 = .ok (.goto (-39), 3) := by decide +kernel
theorem dX10_init_256 : decode cX10_init 256 = .ok (.aload_n 0, 1) := by decide +kernel
theorem dX10_init_257 : decode cX10_init 257 = .ok (.iconst 0, 1) := by decide +kernel
theorem dX10_init_258 : decode cX10_init 258 = .ok (.putfield 91, 3) := by decide +kernel
theorem dX10_init_261 : decode cX10_init 261 = .ok (.return_, 1) := by decide +kernel
theorem dX10_in_0 : decode cX10_in 0 = .ok (.iload_n 0, 1) := by decide +kernel
theorem dX10_in_1 : decode cX10_in 1 = .ok (.iload_n 1, 1) := by decide +kernel
theorem dX10_in_2 : decode cX10_in 2 = .ok (.if_icmp .lt 12, 3) := by decide +kernel
theorem dX10_in_5 : decode cX10_in 5 = .ok (.iload_n 0, 1) := by decide +kernel
theorem dX10_in_6 : decode cX10_in 6 = .ok (.iload_n 2, 1) := by decide +kernel
theorem dX10_in_7 : decode cX10_in 7 = .ok (.if_icmp .gt 7, 3) := by decide +kernel
theorem dX10_in_10 : decode cX10_in 10 = .ok (.iconst 1, 1) := by decide +kernel
theorem dX10_in_11 : decode cX10_in 11 = .ok (.goto 4, 3) := by decide +kernel
theorem dX10_in_14 : decode cX10_in 14 = .ok (.iconst 0, 1) := by decide +kernel
theorem dX10_in_15 : decode cX10_in 15 = .ok (.ireturn, 1) := by decide +kernel
theorem dX10_noField_0 : decode cX10_noField 0 = .ok (.iload_n 1, 1) := by decide +kernel
theorem dX10_noField_1 : decode cX10_noField 1 = .ok (.iconst 0, 1) := by decide +kernel
theorem dX10_noField_2 : decode cX10_noField 2 = .ok (.aload_n 0, 1) := by decide +kernel
theorem dX10_noField_3 : decode cX10_noField 3 = .ok (.getfield 95, 3) := by decide +kernel
theorem dX10_noField_6 : decode cX10_noField 6 = .ok (.iconst 1, 1) := by decide +kernel
theorem dX10_noField_7 : decode cX10_noField 7 = .ok (.isub, 1) := by decide +kernel
theorem dX10_noField_8 : decode cX10_noField 8 = .ok (.invokestatic 99, 3) := by decide +kernel
theorem dX10_noField_11 : decode cX10_noField 11 = .ok (.ifCond .ne 7, 3) := by decide +kernel
theorem dX10_noField_14 : decode cX10_noField 14 = .ok (.iconst 1, 1) := by decide +kernel
theorem dX10_noField_15 : decode cX10_noField 15 = .ok (.goto 4, 3) := by decide +kernel
theorem dX10_noField_18 : decode cX10_noField 18 = .ok (.iconst 0, 1) := by decide +kernel
theorem dX10_noField_19 : decode cX10_noField 19 = .ok (.ireturn, 1) := by decide +kernel
theorem dX10_noPart_0 : decode cX10_noPart 0 = .ok (.iload_n 1, 1) := by decide +kernel
theorem dX10_noPart_1 : decode cX10_noPart 1 = .ok (.iconst 0, 1) := by decide +kernel
theorem dX10_noPart_2 : decode cX10_noPart 2 = .ok (.aload_n 0, 1) := by decide +kernel
theorem dX10_noPart_3 : decode cX10_noPart 3 = .ok (.getfield 103, 3) := by decide +kernel
theorem dX10_noPart_6 : decode cX10_noPart 6 = .ok (.iconst 1, 1) := by decide +kernel
theorem dX10_noPart_7 : decode cX10_noPart 7 = .ok (.isub, 1) := by decide +kernel
theorem dX10_noPart_8 : decode cX10_noPart 8 = .ok (.invokestatic 99, 3) := by decide +kernel
theorem dX10_noPart_11 : decode cX10_noPart 11 = .ok (.ifCond .ne 7, 3) := by decide +kernel
theorem dX10_noPart_14 : decode cX10_noPart 14 = .ok (.iconst 1, 1) := by decide +kernel
theorem dX10_noPart_15 : decode cX10_noPart 15 = .ok (.goto 4, 3) := by decide +kernel
theorem dX10_noPart_18 : decode cX10_noPart 18 = .ok (.iconst 0, 1) := by decide +kernel
theorem dX10_noPart_19 : decode cX10_noPart 19 = .ok (.ireturn, 1) := by decide +kernel
theorem dX10_field_0 : decode cX10_field 0 = .ok (.iload_n 1, 1) := by decide +kernel
theorem dX10_field_1 : decode cX10_field 1 = .ok (.sipush (-1000), 3) := by decide +kernel
theorem dX10_field_4 : decode cX10_field 4 = .ok (.sipush 1000, 3) := by decide +kernel
theorem dX10_field_7 : decode cX10_field 7 = .ok (.invokestatic 99, 3) := by decide +kernel
theorem dX10_field_10 : decode cX10_field 10 = .ok (.ifCond .eq 23, 3) := by decide +kernel
theorem dX10_field_13 : decode cX10_field 13 = .ok (.iload_n 2, 1) := by decide +kernel
theorem dX10_field_14 : decode cX10_field 14 = .ok (.iload_n 1, 1) := by decide +kernel
theorem dX10_field_15 : decode cX10_field 15 = .ok (.sipush 1000, 3) := by decide +kernel
theorem dX10_field_18 : decode cX10_field 18 = .ok (.invokestatic 99, 3) := by decide +kernel
theorem dX10_field_21 : decode cX10_field 21 = .ok (.ifCond .eq 12, 3) := by decide +kernel
theorem dX10_field_24 : decode cX10_field 24 = .ok (.iload_n 3, 1) := by decide +kernel
theorem dX10_field_25 : decode cX10_field 25 = .ok (.iconst 0, 1) := by decide +kernel
theorem dX10_field_26 : decode cX10_field 26 = .ok (.iconst 1, 1) := by decide +kernel
theorem dX10_field_27 : decode cX10_field 27 = .ok (.invokestatic 99, 3) := by decide +kernel
theorem dX10_field_30 : decode cX10_field 30 = .ok (.ifCond .ne 6, 3) := by decide +kernel
theorem dX10_field_33 : decode cX10_field 33 = .ok (.bipush (-2), 2) := by decide +kernel
theorem dX10_field_35 : decode cX10_field 35 = .ok (.ireturn, 1) := by decide +kernel
theorem dX10_field_36 : decode cX10_field 36 = .ok (.aload_n 0, 1) := by decide +kernel
theorem dX10_field_37 : decode cX10_field 37 = .ok (.getfield 95, 3) := by decide +kernel
theorem dX10_field_40 : decode cX10_field 40 = .ok (.bipush 12, 2) := by decide +kernel
theorem dX10_field_42 : decode cX10_field 42 = .ok (.if_icmp .ne 6, 3) := by decide +kernel
theorem dX10_field_45 : decode cX10_field 45 = .ok (.bipush (-4), 2) := by decide +kernel
theorem dX10_field_47 : decode cX10_field 47 = .ok (.ireturn, 1) := by decide +kernel
theorem dX10_field_48 : decode cX10_field 48 = .ok (.aload_n 0, 1) := by decide +kernel
theorem dX10_field_49 : decode cX10_field 49 = .ok (.getfield 7, 3) := by decide +kernel
theorem dX10_field_52 : decode cX10_field 52 = .ok (.aload_n 0, 1) := by decide +kernel
theorem dX10_field_53 : decode cX10_field 53 = .ok (.getfield 95, 3) := by decide +kernel
theorem dX10_field_56 : decode cX10_field 56 = .ok (.iload_n 1, 1) := by decide +kernel
theorem dX10_field_57 : decode cX10_field 57 = .ok (.iastore, 1) := by decide +kernel
theorem dX10_field_58 : decode cX10_field 58 = .ok (.aload_n 0, 1) := by decide +kernel
theorem dX10_field_59 : decode cX10_field 59 = .ok (.getfield 13, 3) := by decide +kernel
theorem dX10_field_62 : decode cX10_field 62 = .ok (.aload_n 0, 1) := by decide +kernel
theorem dX10_field_63 : decode cX10_field 63 = .ok (.getfield 95, 3) := by decide +kernel
theorem dX10_field_66 : decode cX10_field 66 = .ok (.iload_n 2, 1) := by decide +kernel
theorem dX10_field_67 : decode cX10_field 67 = .ok (.iastore, 1) := by decide +kernel
theorem dX10_field_68 : decode cX10_field 68 = .ok (.aload_n 0, 1) := by decide +kernel
theorem dX10_field_69 : decode cX10_field 69 = .ok (.getfield 16, 3) := by decide +kernel
theorem dX10_field_72 : decode cX10_field 72 = .ok (.aload_n 0, 1) := by decide +kernel
theorem dX10_field_73 : decode cX10_field 73 = .ok (.getfield 95, 3) := by decide +kernel
theorem dX10_field_76 : decode cX10_field 76 = .ok (.iload_n 3, 1) := by decide +kernel
theorem dX10_field_77 : decode cX10_field 77 = .ok (.iastore, 1) := by decide +kernel
theorem dX10_field_78 : decode cX10_field 78 = .ok (.iconst 0, 1) := by decide +kernel
theorem dX10_field_79 : decode cX10_field 79 = .ok (.istore 4, 2) := by decide +kernel
theorem dX10_field_81 : decode cX10_field 81 = .ok (.iload 4, 2) := by decide +kernel
theorem dX10_field_83 : decode cX10_field 83 = .ok (.iconst 4, 1) := by decide +kernel
theorem dX10_field_84 : decode cX10_field 84 = .ok (.if_icmp .ge 25, 3) := by decide +kernel
theorem dX10_field_87 : decode cX10_field 87 = .ok (.aload_n 0, 1) := by decide +kernel
theorem dX10_field_88 : decode cX10_field 88 = .ok (.getfield 19, 3) := by decide +kernel
theorem dX10_field_91 : decode cX10_field 91 = .ok (.iconst 4, 1) := by decide +kernel
theorem dX10_field_92 : decode cX10_field 92 = .ok (.aload_n 0, 1) := by decide +kernel
theorem dX10_field_93 : decode cX10_field 93 = .ok (.getfield 95, 3) := by decide +kernel
theorem dX10_field_96 : decode cX10_field 96 = .ok (.imul, 1) := by decide +kernel
theorem dX10_field_97 : decode cX10_field 97 = .ok (.iload 4, 2) := by decide +kernel
theorem dX10_field_99 : decode cX10_field 99 = .ok (.iadd, 1) := by decide +kernel
theorem dX10_field_100 : decode cX10_field 100 = .ok (.bipush (-9), 2) := by decide +kernel
theorem dX10_field_102 : decode cX10_field 102 = .ok (.iastore, 1) := by decide +kernel
theorem dX10_field_103 : decode cX10_field 103 = .ok (.iinc 4 1, 3) := by decide +kernel
theorem dX10_field_106 : decode cX10_field 106 = .ok (.goto (-25), 3) := by decide +kernel
theorem dX10_field_109 : decode cX10_field 109 = .ok (.aload_n 0, 1) := by decide +kernel
theorem dX10_field_110 : decode cX10_field 110 = .ok (.dup, 1) := by decide +kernel
theorem dX10_field_111 : decode cX10_field 111 = .ok (.getfield 95, 3) := by decide +kernel
theorem dX10_field_114 : decode cX10_field 114 = .ok (.iconst 1, 1) := by decide +kernel
theorem dX10_field_115 : decode cX10_field 115 = .ok (.iadd, 1) := by decide +kernel
theorem dX10_field_116 : decode cX10_field 116 = .ok (.putfield 95, 3) := by decide +kernel
theorem dX10_field_119 : decode cX10_field 119 = .ok (.aload_n 0, 1) := by decide +kernel
theorem dX10_field_120 : decode cX10_field 120 = .ok (.iconst 0, 1) := by decide +kernel
theorem dX10_field_121 : decode cX10_field 121 = .ok (.putfield 91, 3) := by decide +kernel
theorem dX10_field_124 : decode cX10_field 124 = .ok (.aload_n 0, 1) := by decide +kernel
theorem dX10_field_125 : decode cX10_field 125 = .ok (.getfield 95, 3) := by decide +kernel
theorem dX10_field_128 : decode cX10_field 128 = .ok (.iconst 1, 1) := by decide +kernel
theorem dX10_field_129 : decode cX10_field 129 = .ok (.isub, 1) := by decide +kernel
theorem dX10_field_130 : decode cX10_field 130 = .ok (.ireturn, 1) := by decide +kernel
theorem dX10_partsOf_0 : decode cX10_partsOf 0 = .ok (.iload_n 0, 1) := by decide +kernel
theorem dX10_partsOf_1 : decode cX10_partsOf 1 = .ok (.bipush 11, 2) := by decide +kernel
theorem dX10_partsOf_3 : decode cX10_partsOf 3 = .ok (.if_icmp .ne 7, 3) := by decide +kernel
theorem dX10_partsOf_6 : decode cX10_partsOf 6 = .ok (.iconst 3, 1) := by decide +kernel
theorem dX10_partsOf_7 : decode cX10_partsOf 7 = .ok (.goto 28, 3) := by decide +kernel
theorem dX10_partsOf_10 : decode cX10_partsOf 10 = .ok (.iload_n 0, 1) := by decide +kernel
theorem dX10_partsOf_11 : decode cX10_partsOf 11 = .ok (.iconst 2, 1) := by decide +kernel
theorem dX10_partsOf_12 : decode cX10_partsOf 12 = .ok (.bipush 8, 2) := by decide +kernel
theorem dX10_partsOf_14 : decode cX10_partsOf 14 = .ok (.invokestatic 99, 3) := by decide +kernel
theorem dX10_partsOf_17 : decode cX10_partsOf 17 = .ok (.ifCond .eq 7, 3) := by decide +kernel
theorem dX10_partsOf_20 : decode cX10_partsOf 20 = .ok (.iconst 2, 1) := by decide +kernel
theorem dX10_partsOf_21 : decode cX10_partsOf 21 = .ok (.goto 14, 3) := by decide +kernel
theorem dX10_partsOf_24 : decode cX10_partsOf 24 = .ok (.iload_n 0, 1) := by decide +kernel
theorem dX10_partsOf_25 : decode cX10_partsOf 25 = .ok (.bipush 9, 2) := by decide +kernel
theorem dX10_partsOf_27 : decode cX10_partsOf 27 = .ok (.if_icmp .ne 7, 3) := by decide +kernel
theorem dX10_partsOf_30 : decode cX10_partsOf 30 = .ok (.iconst 1, 1) := by decide +kernel
theorem dX10_partsOf_31 : decode cX10_partsOf 31 = .ok (.goto 4, 3) := by decide +kernel
theorem dX10_partsOf_34 : decode cX10_partsOf 34 = .ok (.iconst 0, 1) := by decide +kernel
theorem dX10_partsOf_35 : decode cX10_partsOf 35 = .ok (.ireturn, 1) := by decide +kernel
theorem dX10_isOfField_0 : decode cX10_isOfField 0 = .ok (.iload_n 0, 1) := by decide +kernel
theorem dX10_isOfField_1 : decode cX10_isOfField 1 = .ok (.iconst 1, 1) := by decide +kernel
theorem dX10_isOfField_2 : decode cX10_isOfField 2 = .ok (.if_icmp .eq 9, 3) := by decide +kernel
theorem dX10_isOfField_5 : decode cX10_isOfField 5 = .ok (.iload_n 0, 1) := by decide +kernel
theorem dX10_isOfField_6 : decode cX10_isOfField 6 = .ok (.bipush 10, 2) := by decide +kernel
theorem dX10_isOfField_8 : decode cX10_isOfField 8 = .ok (.if_icmp .ne 7, 3) := by decide +kernel
theorem dX10_isOfField_11 : decode cX10_isOfField 11 = .ok (.iconst 1, 1) := by decide +kernel
theorem dX10_isOfField_12 : decode cX10_isOfField 12 = .ok (.goto 4, 3) := by decide +kernel
theorem dX10_isOfField_15 : decode cX10_isOfField 15 = .ok (.iconst 0, 1) := by decide +kernel
theorem dX10_isOfField_16 : decode cX10_isOfField 16 = .ok (.ireturn, 1) := by decide +kernel
theorem dX10_part_0 : decode cX10_part 0 = .ok (.iload_n 1, 1) := by decide +kernel
theorem dX10_part_1 : decode cX10_part 1 = .ok (.invokestatic 106, 3) := by decide +kernel
theorem dX10_part_4 : decode cX10_part 4 = .ok (.istore 5, 2) := by decide +kernel
theorem dX10_part_6 : decode cX10_part 6 = .ok (.iload_n 1, 1) := by decide +kernel
theorem dX10_part_7 : decode cX10_part 7 = .ok (.invokestatic 110, 3) := by decide +kernel
theorem dX10_part_10 : decode cX10_part 10 = .ok (.ifCond .eq 11, 3) := by decide +kernel
theorem dX10_part_13 : decode cX10_part 13 = .ok (.aload_n 0, 1) := by decide +kernel
theorem dX10_part_14 : decode cX10_part 14 = .ok (.iload_n 2, 1) := by decide +kernel
theorem dX10_part_15 : decode cX10_part 15 = .ok (.invokevirtual 114, 3) := by decide +kernel
theorem dX10_part_18 : decode cX10_part 18 = .ok (.ifCond .ne 45, 3) := by decide +kernel
theorem dX10_part_21 : decode cX10_part 21 = .ok (.iload 5, 2) := by decide +kernel
theorem dX10_part_23 : decode cX10_part 23 = .ok (.ifCond .le 11, 3) := by decide +kernel
theorem dX10_part_26 : decode cX10_part 26 = .ok (.aload_n 0, 1) := by decide +kernel
theorem dX10_part_27 : decode cX10_part 27 = .ok (.iload_n 2, 1) := by decide +kernel
theorem dX10_part_28 : decode cX10_part 28 = .ok (.invokevirtual 117, 3) := by decide +kernel
theorem dX10_part_31 : decode cX10_part 31 = .ok (.ifCond .ne 32, 3) := by decide +kernel
theorem dX10_part_34 : decode cX10_part 34 = .ok (.iload 5, 2) := by decide +kernel
theorem dX10_part_36 : decode cX10_part 36 = .ok (.iconst 1, 1) := by decide +kernel
theorem dX10_part_37 : decode cX10_part 37 = .ok (.if_icmp .le 11, 3) := by decide +kernel
theorem dX10_part_40 : decode cX10_part 40 = .ok (.aload_n 0, 1) := by decide +kernel
theorem dX10_part_41 : decode cX10_part 41 = .ok (.iload_n 3, 1) := by decide +kernel
theorem dX10_part_42 : decode cX10_part 42 = .ok (.invokevirtual 117, 3) := by decide +kernel
theorem dX10_part_45 : decode cX10_part 45 = .ok (.ifCond .ne 18, 3) := by decide +kernel
theorem dX10_part_48 : decode cX10_part 48 = .ok (.iload 5, 2) := by decide +kernel
theorem dX10_part_50 : decode cX10_part 50 = .ok (.iconst 2, 1) := by decide +kernel
theorem dX10_part_51 : decode cX10_part 51 = .ok (.if_icmp .le 14, 3) := by decide +kernel
theorem dX10_part_54 : decode cX10_part 54 = .ok (.aload_n 0, 1) := by decide +kernel
theorem dX10_part_55 : decode cX10_part 55 = .ok (.iload 4, 2) := by decide +kernel
theorem dX10_part_57 : decode cX10_part 57 = .ok (.invokevirtual 117, 3) := by decide +kernel
theorem dX10_part_60 : decode cX10_part 60 = .ok (.ifCond .eq 5, 3) := by decide +kernel
theorem dX10_part_63 : decode cX10_part 63 = .ok (.iconst (-1), 1) := by decide +kernel
theorem dX10_part_64 : decode cX10_part 64 = .ok (.ireturn, 1) := by decide +kernel
theorem dX10_part_65 : decode cX10_part 65 = .ok (.iload_n 1, 1) := by decide +kernel
theorem dX10_part_66 : decode cX10_part 66 = .ok (.iconst 0, 1) := by decide +kernel
theorem dX10_part_67 : decode cX10_part 67 = .ok (.bipush 11, 2) := by decide +kernel
theorem dX10_part_69 : decode cX10_part 69 = .ok (.invokestatic 99, 3) := by decide +kernel
theorem dX10_part_72 : decode cX10_part 72 = .ok (.ifCond .eq 18, 3) := by decide +kernel
theorem dX10_part_75 : decode cX10_part 75 = .ok (.iload_n 1, 1) := by decide +kernel
theorem dX10_part_76 : decode cX10_part 76 = .ok (.ifCond .ne 17, 3) := by decide +kernel
theorem dX10_part_79 : decode cX10_part 79 = .ok (.iload_n 2, 1) := by decide +kernel
theorem dX10_part_80 : decode cX10_part 80 = .ok (.ldc 120, 2) := by decide +kernel
theorem dX10_part_82 : decode cX10_part 82 = .ok (.ldc 121, 2) := by decide +kernel
theorem dX10_part_84 : decode cX10_part 84 = .ok (.invokestatic 99, 3) := by decide +kernel
theorem dX10_part_87 : decode cX10_part 87 = .ok (.ifCond .ne 6, 3) := by decide +kernel
theorem dX10_part_90 : decode cX10_part 90 = .ok (.bipush (-2), 2) := by decide +kernel
theorem dX10_part_92 : decode cX10_part 92 = .ok (.ireturn, 1) := by decide +kernel
theorem dX10_part_93 : decode cX10_part 93 = .ok (.aload_n 0, 1) := by decide +kernel
theorem dX10_part_94 : decode cX10_part 94 = .ok (.getfield 103, 3) := by decide +kernel
theorem dX10_part_97 : decode cX10_part 97 = .ok (.bipush 50, 2) := by decide +kernel
theorem dX10_part_99 : decode cX10_part 99 = .ok (.if_icmp .ne 6, 3) := by decide +kernel
theorem dX10_part_102 : decode cX10_part 102 = .ok (.bipush (-4), 2) := by decide +kernel
theorem dX10_part_104 : decode cX10_part 104 = .ok (.ireturn, 1) := by decide +kernel
theorem dX10_part_105 : decode cX10_part 105 = .ok (.aload_n 0, 1) := by decide +kernel
theorem dX10_part_106 : decode cX10_part 106 = .ok (.getfield 22, 3) := by decide +kernel
theorem dX10_part_109 : decode cX10_part 109 = .ok (.aload_n 0, 1) := by decide +kernel
theorem dX10_part_110 : decode cX10_part 110 = .ok (.getfield 103, 3) := by decide +kernel
theorem dX10_part_113 : decode cX10_part 113 = .ok (.iload_n 1, 1) := by decide +kernel
theorem dX10_part_114 : decode cX10_part 114 = .ok (.iastore, 1) := by decide +kernel
theorem dX10_part_115 : decode cX10_part 115 = .ok (.aload_n 0, 1) := by decide +kernel
theorem dX10_part_116 : decode cX10_part 116 = .ok (.getfield 25, 3) := by decide +kernel
theorem dX10_part_119 : decode cX10_part 119 = .ok (.aload_n 0, 1) := by decide +kernel
theorem dX10_part_120 : decode cX10_part 120 = .ok (.getfield 103, 3) := by decide +kernel
theorem dX10_part_123 : decode cX10_part 123 = .ok (.iload_n 2, 1) := by decide +kernel
theorem dX10_part_124 : decode cX10_part 124 = .ok (.iastore, 1) := by decide +kernel
theorem dX10_part_125 : decode cX10_part 125 = .ok (.aload_n 0, 1) := by decide +kernel
theorem dX10_part_126 : decode cX10_part 126 = .ok (.getfield 28, 3) := by decide +kernel
theorem dX10_part_129 : decode cX10_part 129 = .ok (.aload_n 0, 1) := by decide +kernel
theorem dX10_part_130 : decode cX10_part 130 = .ok (.getfield 103, 3) := by decide +kernel
theorem dX10_part_133 : decode cX10_part 133 = .ok (.iload_n 3, 1) := by decide +kernel
theorem dX10_part_134 : decode cX10_part 134 = .ok (.iastore, 1) := by decide +kernel
theorem dX10_part_135 : decode cX10_part 135 = .ok (.aload_n 0, 1) := by decide +kernel
theorem dX10_part_136 : decode cX10_part 136 = .ok (.getfield 31, 3) := by decide +kernel
theorem dX10_part_139 : decode cX10_part 139 = .ok (.aload_n 0, 1) := by decide +kernel
theorem dX10_part_140 : decode cX10_part 140 = .ok (.getfield 103, 3) := by decide +kernel
theorem dX10_part_143 : decode cX10_part 143 = .ok (.iload 4, 2) := by decide +kernel
theorem dX10_part_145 : decode cX10_part 145 = .ok (.iastore, 1) := by decide +kernel
theorem dX10_part_146 : decode cX10_part 146 = .ok (.aload_n 0, 1) := by decide +kernel
theorem dX10_part_147 : decode cX10_part 147 = .ok (.dup, 1) := by decide +kernel
theorem dX10_part_148 : decode cX10_part 148 = .ok (.getfield 103, 3) := by decide +kernel
theorem dX10_part_151 : decode cX10_part 151 = .ok (.iconst 1, 1) := by decide +kernel
theorem dX10_part_152 : decode cX10_part 152 = .ok (.iadd, 1) := by decide +kernel
theorem dX10_part_153 : decode cX10_part 153 = .ok (.putfield 103, 3) := by decide +kernel
theorem dX10_part_156 : decode cX10_part 156 = .ok (.aload_n 0, 1) := by decide +kernel
theorem dX10_part_157 : decode cX10_part 157 = .ok (.getfield 103, 3) := by decide +kernel
theorem dX10_part_160 : decode cX10_part 160 = .ok (.iconst 1, 1) := by decide +kernel
theorem dX10_part_161 : decode cX10_part 161 = .ok (.isub, 1) := by decide +kernel
theorem dX10_part_162 : decode cX10_part 162 = .ok (.ireturn, 1) := by decide +kernel
theorem dX10_reached_0 : decode cX10_reached 0 = .ok (.lconst 1, 1) := by decide +kernel
theorem dX10_reached_1 : decode cX10_reached 1 = .ok (.iload_n 1, 1) := by decide +kernel
theorem dX10_reached_2 : decode cX10_reached 2 = .ok (.lshl, 1) := by decide +kernel
theorem dX10_reached_3 : decode cX10_reached 3 = .ok (.lstore_n 2, 1) := by decide +kernel
theorem dX10_reached_4 : decode cX10_reached 4 = .ok (.iload_n 1, 1) := by decide +kernel
theorem dX10_reached_5 : decode cX10_reached 5 = .ok (.istore 4, 2) := by decide +kernel
theorem dX10_reached_7 : decode cX10_reached 7 = .ok (.iload 4, 2) := by decide +kernel
theorem dX10_reached_9 : decode cX10_reached 9 = .ok (.ifCond .lt 97, 3) := by decide +kernel
theorem dX10_reached_12 : decode cX10_reached 12 = .ok (.lload_n 2, 1) := by decide +kernel
theorem dX10_reached_13 : decode cX10_reached 13 = .ok (.iload 4, 2) := by decide +kernel
theorem dX10_reached_15 : decode cX10_reached 15 = .ok (.lshr, 1) := by decide +kernel
theorem dX10_reached_16 : decode cX10_reached 16 = .ok (.lconst 1, 1) := by decide +kernel
theorem dX10_reached_17 : decode cX10_reached 17 = .ok (.land, 1) := by decide +kernel
theorem dX10_reached_18 : decode cX10_reached 18 = .ok (.lconst 1, 1) := by decide +kernel
theorem dX10_reached_19 : decode cX10_reached 19 = .ok (.lcmp, 1) := by decide +kernel
theorem dX10_reached_20 : decode cX10_reached 20 = .ok (.ifCond .ne 80, 3) := by decide +kernel
theorem dX10_reached_23 : decode cX10_reached 23 = .ok (.aload_n 0, 1) := by decide +kernel
theorem dX10_reached_24 : decode cX10_reached 24 = .ok (.getfield 22, 3) := by decide +kernel
theorem dX10_reached_27 : decode cX10_reached 27 = .ok (.iload 4, 2) := by decide +kernel
theorem dX10_reached_29 : decode cX10_reached 29 = .ok (.iaload, 1) := by decide +kernel
theorem dX10_reached_30 : decode cX10_reached 30 = .ok (.invokestatic 106, 3) := by decide +kernel
theorem dX10_reached_33 : decode cX10_reached 33 = .ok (.istore 5, 2) := by decide +kernel
theorem dX10_reached_35 : decode cX10_reached 35 = .ok (.lload_n 2, 1) := by decide +kernel
theorem dX10_reached_36 : decode cX10_reached 36 = .ok (.iload 5, 2) := by decide +kernel
theorem dX10_reached_38 : decode cX10_reached 38 = .ok (.ifCond .le 15, 3) := by decide +kernel
theorem dX10_reached_41 : decode cX10_reached 41 = .ok (.lconst 1, 1) := by decide +kernel
theorem dX10_reached_42 : decode cX10_reached 42 = .ok (.aload_n 0, 1) := by decide +kernel
theorem dX10_reached_43 : decode cX10_reached 43 = .ok (.getfield 25, 3) := by decide +kernel
theorem dX10_reached_46 : decode cX10_reached 46 = .ok (.iload 4, 2) := by decide +kernel
theorem dX10_reached_48 : decode cX10_reached 48 = .ok (.iaload, 1) := by decide +kernel
theorem dX10_reached_49 : decode cX10_reached 49 = .ok (.lshl, 1) := by decide +kernel
theorem dX10_reached_50 : decode cX10_reached 50 = .ok (.goto 4, 3) := by decide +kernel
theorem dX10_reached_53 : decode cX10_reached 53 = .ok (.lconst 0, 1) := by decide +kernel
theorem dX10_reached_54 : decode cX10_reached 54 = .ok (.lor, 1) := by decide +kernel
theorem dX10_reached_55 : decode cX10_reached 55 = .ok (.lstore_n 2, 1) := by decide +kernel
theorem dX10_reached_56 : decode cX10_reached 56 = .ok (.lload_n 2, 1) := by decide +kernel
theorem dX10_reached_57 : decode cX10_reached 57 = .ok (.iload 5, 2) := by decide +kernel
theorem dX10_reached_59 : decode cX10_reached 59 = .ok (.iconst 1, 1) := by decide +kernel
theorem dX10_reached_60 : decode cX10_reached 60 = .ok (.if_icmp .le 15, 3) := by decide +kernel
theorem dX10_reached_63 : decode cX10_reached 63 = .ok (.lconst 1, 1) := by decide +kernel
theorem dX10_reached_64 : decode cX10_reached 64 = .ok (.aload_n 0, 1) := by decide +kernel
theorem dX10_reached_65 : decode cX10_reached 65 = .ok (.getfield 28, 3) := by decide +kernel
theorem dX10_reached_68 : decode cX10_reached 68 = .ok (.iload 4, 2) := by decide +kernel
theorem dX10_reached_70 : decode cX10_reached 70 = .ok (.iaload, 1) := by decide +kernel
theorem dX10_reached_71 : decode cX10_reached 71 = .ok (.lshl, 1) := by decide +kernel
theorem dX10_reached_72 : decode cX10_reached 72 = .ok (.goto 4, 3) := by decide +kernel
theorem dX10_reached_75 : decode cX10_reached 75 = .ok (.lconst 0, 1) := by decide +kernel
theorem dX10_reached_76 : decode cX10_reached 76 = .ok (.lor, 1) := by decide +kernel
theorem dX10_reached_77 : decode cX10_reached 77 = .ok (.lstore_n 2, 1) := by decide +kernel
theorem dX10_reached_78 : decode cX10_reached 78 = .ok (.lload_n 2, 1) := by decide +kernel
theorem dX10_reached_79 : decode cX10_reached 79 = .ok (.iload 5, 2) := by decide +kernel
theorem dX10_reached_81 : decode cX10_reached 81 = .ok (.iconst 2, 1) := by decide +kernel
theorem dX10_reached_82 : decode cX10_reached 82 = .ok (.if_icmp .le 15, 3) := by decide +kernel
theorem dX10_reached_85 : decode cX10_reached 85 = .ok (.lconst 1, 1) := by decide +kernel
theorem dX10_reached_86 : decode cX10_reached 86 = .ok (.aload_n 0, 1) := by decide +kernel
theorem dX10_reached_87 : decode cX10_reached 87 = .ok (.getfield 31, 3) := by decide +kernel
theorem dX10_reached_90 : decode cX10_reached 90 = .ok (.iload 4, 2) := by decide +kernel
theorem dX10_reached_92 : decode cX10_reached 92 = .ok (.iaload, 1) := by decide +kernel
theorem dX10_reached_93 : decode cX10_reached 93 = .ok (.lshl, 1) := by decide +kernel
theorem dX10_reached_94 : decode cX10_reached 94 = .ok (.goto 4, 3) := by decide +kernel
theorem dX10_reached_97 : decode cX10_reached 97 = .ok (.lconst 0, 1) := by decide +kernel
theorem dX10_reached_98 : decode cX10_reached 98 = .ok (.lor, 1) := by decide +kernel
theorem dX10_reached_99 : decode cX10_reached 99 = .ok (.lstore_n 2, 1) := by decide +kernel
theorem dX10_reached_100 : decode cX10_reached 100 = .ok (.iinc 4 (-1), 3) := by decide +kernel
theorem dX10_reached_103 : decode cX10_reached 103 = .ok (.goto (-96), 3) := by decide +kernel
theorem dX10_reached_106 : decode cX10_reached 106 = .ok (.lload_n 2, 1) := by decide +kernel
theorem dX10_reached_107 : decode cX10_reached 107 = .ok (.lreturn, 1) := by decide +kernel
theorem dX10_fieldsOf_0 : decode cX10_fieldsOf 0 = .ok (.iconst 0, 1) := by decide +kernel
theorem dX10_fieldsOf_1 : decode cX10_fieldsOf 1 = .ok (.istore_n 3, 1) := by decide +kernel
theorem dX10_fieldsOf_2 : decode cX10_fieldsOf 2 = .ok (.iconst 0, 1) := by decide +kernel
theorem dX10_fieldsOf_3 : decode cX10_fieldsOf 3 = .ok (.istore 4, 2) := by decide +kernel
theorem dX10_fieldsOf_5 : decode cX10_fieldsOf 5 = .ok (.iload 4, 2) := by decide +kernel
theorem dX10_fieldsOf_7 : decode cX10_fieldsOf 7 = .ok (.aload_n 0, 1) := by decide +kernel
theorem dX10_fieldsOf_8 : decode cX10_fieldsOf 8 = .ok (.getfield 103, 3) := by decide +kernel
theorem dX10_fieldsOf_11 : decode cX10_fieldsOf 11 = .ok (.if_icmp .ge 49, 3) := by decide +kernel
theorem dX10_fieldsOf_14 : decode cX10_fieldsOf 14 = .ok (.iload_n 3, 1) := by decide +kernel
theorem dX10_fieldsOf_15 : decode cX10_fieldsOf 15 = .ok (.lload_n 1, 1) := by decide +kernel
theorem dX10_fieldsOf_16 : decode cX10_fieldsOf 16 = .ok (.iload 4, 2) := by decide +kernel
theorem dX10_fieldsOf_18 : decode cX10_fieldsOf 18 = .ok (.lshr, 1) := by decide +kernel
theorem dX10_fieldsOf_19 : decode cX10_fieldsOf 19 = .ok (.lconst 1, 1) := by decide +kernel
theorem dX10_fieldsOf_20 : decode cX10_fieldsOf 20 = .ok (.land, 1) := by decide +kernel
theorem dX10_fieldsOf_21 : decode cX10_fieldsOf 21 = .ok (.lconst 1, 1) := by decide +kernel
theorem dX10_fieldsOf_22 : decode cX10_fieldsOf 22 = .ok (.lcmp, 1) := by decide +kernel
theorem dX10_fieldsOf_23 : decode cX10_fieldsOf 23 = .ok (.ifCond .ne 28, 3) := by decide +kernel
theorem dX10_fieldsOf_26 : decode cX10_fieldsOf 26 = .ok (.aload_n 0, 1) := by decide +kernel
theorem dX10_fieldsOf_27 : decode cX10_fieldsOf 27 = .ok (.getfield 22, 3) := by decide +kernel
theorem dX10_fieldsOf_30 : decode cX10_fieldsOf 30 = .ok (.iload 4, 2) := by decide +kernel
theorem dX10_fieldsOf_32 : decode cX10_fieldsOf 32 = .ok (.iaload, 1) := by decide +kernel
theorem dX10_fieldsOf_33 : decode cX10_fieldsOf 33 = .ok (.invokestatic 110, 3) := by decide +kernel
theorem dX10_fieldsOf_36 : decode cX10_fieldsOf 36 = .ok (.ifCond .eq 15, 3) := by decide +kernel
theorem dX10_fieldsOf_39 : decode cX10_fieldsOf 39 = .ok (.iconst 1, 1) := by decide +kernel
theorem dX10_fieldsOf_40 : decode cX10_fieldsOf 40 = .ok (.aload_n 0, 1) := by decide +kernel
theorem dX10_fieldsOf_41 : decode cX10_fieldsOf 41 = .ok (.getfield 25, 3) := by decide +kernel
theorem dX10_fieldsOf_44 : decode cX10_fieldsOf 44 = .ok (.iload 4, 2) := by decide +kernel
theorem dX10_fieldsOf_46 : decode cX10_fieldsOf 46 = .ok (.iaload, 1) := by decide +kernel
theorem dX10_fieldsOf_47 : decode cX10_fieldsOf 47 = .ok (.ishl, 1) := by decide +kernel
theorem dX10_fieldsOf_48 : decode cX10_fieldsOf 48 = .ok (.goto 4, 3) := by decide +kernel
theorem dX10_fieldsOf_51 : decode cX10_fieldsOf 51 = .ok (.iconst 0, 1) := by decide +kernel
theorem dX10_fieldsOf_52 : decode cX10_fieldsOf 52 = .ok (.ior, 1) := by decide +kernel
theorem dX10_fieldsOf_53 : decode cX10_fieldsOf 53 = .ok (.istore_n 3, 1) := by decide +kernel
theorem dX10_fieldsOf_54 : decode cX10_fieldsOf 54 = .ok (.iinc 4 1, 3) := by decide +kernel
theorem dX10_fieldsOf_57 : decode cX10_fieldsOf 57 = .ok (.goto (-52), 3) := by decide +kernel
theorem dX10_fieldsOf_60 : decode cX10_fieldsOf 60 = .ok (.iload_n 3, 1) := by decide +kernel
theorem dX10_fieldsOf_61 : decode cX10_fieldsOf 61 = .ok (.ireturn, 1) := by decide +kernel
theorem dX10_needsOf_0 : decode cX10_needsOf 0 = .ok (.aload_n 0, 1) := by decide +kernel
theorem dX10_needsOf_1 : decode cX10_needsOf 1 = .ok (.getfield 19, 3) := by decide +kernel
theorem dX10_needsOf_4 : decode cX10_needsOf 4 = .ok (.iconst 4, 1) := by decide +kernel
theorem dX10_needsOf_5 : decode cX10_needsOf 5 = .ok (.iload_n 1, 1) := by decide +kernel
theorem dX10_needsOf_6 : decode cX10_needsOf 6 = .ok (.imul, 1) := by decide +kernel
theorem dX10_needsOf_7 : decode cX10_needsOf 7 = .ok (.iconst 0, 1) := by decide +kernel
theorem dX10_needsOf_8 : decode cX10_needsOf 8 = .ok (.iadd, 1) := by decide +kernel
theorem dX10_needsOf_9 : decode cX10_needsOf 9 = .ok (.iaload, 1) := by decide +kernel
theorem dX10_needsOf_10 : decode cX10_needsOf 10 = .ok (.istore_n 2, 1) := by decide +kernel
theorem dX10_needsOf_11 : decode cX10_needsOf 11 = .ok (.aload_n 0, 1) := by decide +kernel
theorem dX10_needsOf_12 : decode cX10_needsOf 12 = .ok (.getfield 19, 3) := by decide +kernel
theorem dX10_needsOf_15 : decode cX10_needsOf 15 = .ok (.iconst 4, 1) := by decide +kernel
theorem dX10_needsOf_16 : decode cX10_needsOf 16 = .ok (.iload_n 1, 1) := by decide +kernel
theorem dX10_needsOf_17 : decode cX10_needsOf 17 = .ok (.imul, 1) := by decide +kernel
theorem dX10_needsOf_18 : decode cX10_needsOf 18 = .ok (.iconst 3, 1) := by decide +kernel
theorem dX10_needsOf_19 : decode cX10_needsOf 19 = .ok (.iadd, 1) := by decide +kernel
theorem dX10_needsOf_20 : decode cX10_needsOf 20 = .ok (.iaload, 1) := by decide +kernel
theorem dX10_needsOf_21 : decode cX10_needsOf 21 = .ok (.istore_n 3, 1) := by decide +kernel
theorem dX10_needsOf_22 : decode cX10_needsOf 22 = .ok (.iload_n 2, 1) := by decide +kernel
theorem dX10_needsOf_23 : decode cX10_needsOf 23 = .ok (.ifCond .lt 11, 3) := by decide +kernel
theorem dX10_needsOf_26 : decode cX10_needsOf 26 = .ok (.aload_n 0, 1) := by decide +kernel
theorem dX10_needsOf_27 : decode cX10_needsOf 27 = .ok (.iload_n 2, 1) := by decide +kernel
theorem dX10_needsOf_28 : decode cX10_needsOf 28 = .ok (.invokevirtual 122, 3) := by decide +kernel
theorem dX10_needsOf_31 : decode cX10_needsOf 31 = .ok (.goto 4, 3) := by decide +kernel
theorem dX10_needsOf_34 : decode cX10_needsOf 34 = .ok (.lconst 0, 1) := by decide +kernel
theorem dX10_needsOf_35 : decode cX10_needsOf 35 = .ok (.iload_n 3, 1) := by decide +kernel
theorem dX10_needsOf_36 : decode cX10_needsOf 36 = .ok (.ifCond .lt 11, 3) := by decide +kernel
theorem dX10_needsOf_39 : decode cX10_needsOf 39 = .ok (.aload_n 0, 1) := by decide +kernel
theorem dX10_needsOf_40 : decode cX10_needsOf 40 = .ok (.iload_n 3, 1) := by decide +kernel
theorem dX10_needsOf_41 : decode cX10_needsOf 41 = .ok (.invokevirtual 122, 3) := by decide +kernel
theorem dX10_needsOf_44 : decode cX10_needsOf 44 = .ok (.goto 4, 3) := by decide +kernel
theorem dX10_needsOf_47 : decode cX10_needsOf 47 = .ok (.lconst 0, 1) := by decide +kernel
theorem dX10_needsOf_48 : decode cX10_needsOf 48 = .ok (.lor, 1) := by decide +kernel
theorem dX10_needsOf_49 : decode cX10_needsOf 49 = .ok (.lreturn, 1) := by decide +kernel
theorem dX10_count_0 : decode cX10_count 0 = .ok (.iconst 0, 1) := by decide +kernel
theorem dX10_count_1 : decode cX10_count 1 = .ok (.istore_n 1, 1) := by decide +kernel
theorem dX10_count_2 : decode cX10_count 2 = .ok (.iconst 0, 1) := by decide +kernel
theorem dX10_count_3 : decode cX10_count 3 = .ok (.istore_n 2, 1) := by decide +kernel
theorem dX10_count_4 : decode cX10_count 4 = .ok (.iload_n 2, 1) := by decide +kernel
theorem dX10_count_5 : decode cX10_count 5 = .ok (.bipush 12, 2) := by decide +kernel
theorem dX10_count_7 : decode cX10_count 7 = .ok (.if_icmp .ge 17, 3) := by decide +kernel
theorem dX10_count_10 : decode cX10_count 10 = .ok (.iload_n 1, 1) := by decide +kernel
theorem dX10_count_11 : decode cX10_count 11 = .ok (.iload_n 0, 1) := by decide +kernel
theorem dX10_count_12 : decode cX10_count 12 = .ok (.iload_n 2, 1) := by decide +kernel
theorem dX10_count_13 : decode cX10_count 13 = .ok (.ishr, 1) := by decide +kernel
theorem dX10_count_14 : decode cX10_count 14 = .ok (.iconst 1, 1) := by decide +kernel
theorem dX10_count_15 : decode cX10_count 15 = .ok (.iand, 1) := by decide +kernel
theorem dX10_count_16 : decode cX10_count 16 = .ok (.iadd, 1) := by decide +kernel
theorem dX10_count_17 : decode cX10_count 17 = .ok (.istore_n 1, 1) := by decide +kernel
theorem dX10_count_18 : decode cX10_count 18 = .ok (.iinc 2 1, 3) := by decide +kernel
theorem dX10_count_21 : decode cX10_count 21 = .ok (.goto (-17), 3) := by decide +kernel
theorem dX10_count_24 : decode cX10_count 24 = .ok (.iload_n 1, 1) := by decide +kernel
theorem dX10_count_25 : decode cX10_count 25 = .ok (.ireturn, 1) := by decide +kernel
theorem dX10_findHangs_0 : decode cX10_findHangs 0 = .ok (.iconst 0, 1) := by decide +kernel
theorem dX10_findHangs_1 : decode cX10_findHangs 1 = .ok (.istore_n 1, 1) := by decide +kernel
theorem dX10_findHangs_2 : decode cX10_findHangs 2 = .ok (.iload_n 1, 1) := by decide +kernel
theorem dX10_findHangs_3 : decode cX10_findHangs 3 = .ok (.aload_n 0, 1) := by decide +kernel
theorem dX10_findHangs_4 : decode cX10_findHangs 4 = .ok (.getfield 95, 3) := by decide +kernel
theorem dX10_findHangs_7 : decode cX10_findHangs 7 = .ok (.if_icmp .ge 48, 3) := by decide +kernel
theorem dX10_findHangs_10 : decode cX10_findHangs 10 = .ok (.aload_n 0, 1) := by decide +kernel
theorem dX10_findHangs_11 : decode cX10_findHangs 11 = .ok (.getfield 40, 3) := by decide +kernel
theorem dX10_findHangs_14 : decode cX10_findHangs 14 = .ok (.iload_n 1, 1) := by decide +kernel
theorem dX10_findHangs_15 : decode cX10_findHangs 15 = .ok (.aload_n 0, 1) := by decide +kernel
theorem dX10_findHangs_16 : decode cX10_findHangs 16 = .ok (.iload_n 1, 1) := by decide +kernel
theorem dX10_findHangs_17 : decode cX10_findHangs 17 = .ok (.invokevirtual 126, 3) := by decide +kernel
theorem dX10_findHangs_20 : decode cX10_findHangs 20 = .ok (.lastore, 1) := by decide +kernel
theorem dX10_findHangs_21 : decode cX10_findHangs 21 = .ok (.aload_n 0, 1) := by decide +kernel
theorem dX10_findHangs_22 : decode cX10_findHangs 22 = .ok (.getfield 34, 3) := by decide +kernel
theorem dX10_findHangs_25 : decode cX10_findHangs 25 = .ok (.iload_n 1, 1) := by decide +kernel
theorem dX10_findHangs_26 : decode cX10_findHangs 26 = .ok (.aload_n 0, 1) := by decide +kernel
theorem dX10_findHangs_27 : decode cX10_findHangs 27 = .ok (.aload_n 0, 1) := by decide +kernel
theorem dX10_findHangs_28 : decode cX10_findHangs 28 = .ok (.getfield 40, 3) := by decide +kernel
theorem dX10_findHangs_31 : decode cX10_findHangs 31 = .ok (.iload_n 1, 1) := by decide +kernel
theorem dX10_findHangs_32 : decode cX10_findHangs 32 = .ok (.laload, 1) := by decide +kernel
theorem dX10_findHangs_33 : decode cX10_findHangs 33 = .ok (.invokevirtual 129, 3) := by decide +kernel
theorem dX10_findHangs_36 : decode cX10_findHangs 36 = .ok (.iastore, 1) := by decide +kernel
theorem dX10_findHangs_37 : decode cX10_findHangs 37 = .ok (.aload_n 0, 1) := by decide +kernel
theorem dX10_findHangs_38 : decode cX10_findHangs 38 = .ok (.getfield 37, 3) := by decide +kernel
theorem dX10_findHangs_41 : decode cX10_findHangs 41 = .ok (.iload_n 1, 1) := by decide +kernel
theorem dX10_findHangs_42 : decode cX10_findHangs 42 = .ok (.aload_n 0, 1) := by decide +kernel
theorem dX10_findHangs_43 : decode cX10_findHangs 43 = .ok (.getfield 34, 3) := by decide +kernel
theorem dX10_findHangs_46 : decode cX10_findHangs 46 = .ok (.iload_n 1, 1) := by decide +kernel
theorem dX10_findHangs_47 : decode cX10_findHangs 47 = .ok (.iaload, 1) := by decide +kernel
theorem dX10_findHangs_48 : decode cX10_findHangs 48 = .ok (.iastore, 1) := by decide +kernel
theorem dX10_findHangs_49 : decode cX10_findHangs 49 = .ok (.iinc 1 1, 3) := by decide +kernel
theorem dX10_findHangs_52 : decode cX10_findHangs 52 = .ok (.goto (-50), 3) := by decide +kernel
theorem dX10_findHangs_55 : decode cX10_findHangs 55 = .ok (.iconst 0, 1) := by decide +kernel
theorem dX10_findHangs_56 : decode cX10_findHangs 56 = .ok (.istore_n 1, 1) := by decide +kernel
theorem dX10_findHangs_57 : decode cX10_findHangs 57 = .ok (.iload_n 1, 1) := by decide +kernel
theorem dX10_findHangs_58 : decode cX10_findHangs 58 = .ok (.aload_n 0, 1) := by decide +kernel
theorem dX10_findHangs_59 : decode cX10_findHangs 59 = .ok (.getfield 95, 3) := by decide +kernel
theorem dX10_findHangs_62 : decode cX10_findHangs 62 = .ok (.if_icmp .ge 74, 3) := by decide +kernel
theorem dX10_findHangs_65 : decode cX10_findHangs 65 = .ok (.iconst 0, 1) := by decide +kernel
theorem dX10_findHangs_66 : decode cX10_findHangs 66 = .ok (.istore_n 2, 1) := by decide +kernel
theorem dX10_findHangs_67 : decode cX10_findHangs 67 = .ok (.iload_n 2, 1) := by decide +kernel
theorem dX10_findHangs_68 : decode cX10_findHangs 68 = .ok (.aload_n 0, 1) := by decide +kernel
theorem dX10_findHangs_69 : decode cX10_findHangs 69 = .ok (.getfield 95, 3) := by decide +kernel
theorem dX10_findHangs_72 : decode cX10_findHangs 72 = .ok (.if_icmp .ge 58, 3) := by decide +kernel
theorem dX10_findHangs_75 : decode cX10_findHangs 75 = .ok (.iconst 0, 1) := by decide +kernel
theorem dX10_findHangs_76 : decode cX10_findHangs 76 = .ok (.istore_n 3, 1) := by decide +kernel
theorem dX10_findHangs_77 : decode cX10_findHangs 77 = .ok (.iload_n 3, 1) := by decide +kernel
theorem dX10_findHangs_78 : decode cX10_findHangs 78 = .ok (.aload_n 0, 1) := by decide +kernel
theorem dX10_findHangs_79 : decode cX10_findHangs 79 = .ok (.getfield 95, 3) := by decide +kernel
theorem dX10_findHangs_82 : decode cX10_findHangs 82 = .ok (.if_icmp .ge 42, 3) := by decide +kernel
theorem dX10_findHangs_85 : decode cX10_findHangs 85 = .ok (.aload_n 0, 1) := by decide +kernel
theorem dX10_findHangs_86 : decode cX10_findHangs 86 = .ok (.getfield 37, 3) := by decide +kernel
theorem dX10_findHangs_89 : decode cX10_findHangs 89 = .ok (.iload_n 2, 1) := by decide +kernel
theorem dX10_findHangs_90 : decode cX10_findHangs 90 = .ok (.dup2, 1) := by decide +kernel
theorem dX10_findHangs_91 : decode cX10_findHangs 91 = .ok (.iaload, 1) := by decide +kernel
theorem dX10_findHangs_92 : decode cX10_findHangs 92 = .ok (.aload_n 0, 1) := by decide +kernel
theorem dX10_findHangs_93 : decode cX10_findHangs 93 = .ok (.getfield 37, 3) := by decide +kernel
theorem dX10_findHangs_96 : decode cX10_findHangs 96 = .ok (.iload_n 2, 1) := by decide +kernel
theorem dX10_findHangs_97 : decode cX10_findHangs 97 = .ok (.iaload, 1) := by decide +kernel
theorem dX10_findHangs_98 : decode cX10_findHangs 98 = .ok (.iload_n 3, 1) := by decide +kernel
theorem dX10_findHangs_99 : decode cX10_findHangs 99 = .ok (.ishr, 1) := by decide +kernel
theorem dX10_findHangs_100 : decode cX10_findHangs 100 = .ok (.iconst 1, 1) := by decide +kernel
theorem dX10_findHangs_101 : decode cX10_findHangs 101 = .ok (.iand, 1) := by decide +kernel
theorem dX10_findHangs_102 : decode cX10_findHangs 102 = .ok (.iconst 1, 1) := by decide +kernel
theorem dX10_findHangs_103 : decode cX10_findHangs 103 = .ok (.if_icmp .ne 12, 3) := by decide +kernel
theorem dX10_findHangs_106 : decode cX10_findHangs 106 = .ok (.aload_n 0, 1) := by decide +kernel
theorem dX10_findHangs_107 : decode cX10_findHangs 107 = .ok (.getfield 37, 3) := by decide +kernel
theorem dX10_findHangs_110 : decode cX10_findHangs 110 = .ok (.iload_n 3, 1) := by decide +kernel
theorem dX10_findHangs_111 : decode cX10_findHangs 111 = .ok (.iaload, 1) := by decide +kernel
theorem dX10_findHangs_112 : decode cX10_findHangs 112 = .ok (.goto 4, 3) := by decide +kernel
theorem dX10_findHangs_115 : decode cX10_findHangs 115 = .ok (.iconst 0, 1) := by decide +kernel
theorem dX10_findHangs_116 : decode cX10_findHangs 116 = .ok (.ior, 1) := by decide +kernel
theorem dX10_findHangs_117 : decode cX10_findHangs 117 = .ok (.iastore, 1) := by decide +kernel
theorem dX10_findHangs_118 : decode cX10_findHangs 118 = .ok (.iinc 3 1, 3) := by decide +kernel
theorem dX10_findHangs_121 : decode cX10_findHangs 121 = .ok (.goto (-44), 3) := by decide +kernel
theorem dX10_findHangs_124 : decode cX10_findHangs 124 = .ok (.iinc 2 1, 3) := by decide +kernel
theorem dX10_findHangs_127 : decode cX10_findHangs 127 = .ok (.goto (-60), 3) := by decide +kernel
theorem dX10_findHangs_130 : decode cX10_findHangs 130 = .ok (.iinc 1 1, 3) := by decide +kernel
theorem dX10_findHangs_133 : decode cX10_findHangs 133 = .ok (.goto (-76), 3) := by decide +kernel
theorem dX10_findHangs_136 : decode cX10_findHangs 136 = .ok (.return_, 1) := by decide +kernel
theorem dX10_arrange_0 : decode cX10_arrange 0 = .ok (.aload_n 0, 1) := by decide +kernel
theorem dX10_arrange_1 : decode cX10_arrange 1 = .ok (.getfield 91, 3) := by decide +kernel
theorem dX10_arrange_4 : decode cX10_arrange 4 = .ok (.ifCond .eq 4, 3) := by decide +kernel
theorem dX10_arrange_7 : decode cX10_arrange 7 = .ok (.return_, 1) := by decide +kernel
theorem dX10_arrange_8 : decode cX10_arrange 8 = .ok (.aload_n 0, 1) := by decide +kernel
theorem dX10_arrange_9 : decode cX10_arrange 9 = .ok (.iconst 1, 1) := by decide +kernel
theorem dX10_arrange_10 : decode cX10_arrange 10 = .ok (.putfield 91, 3) := by decide +kernel
theorem dX10_arrange_13 : decode cX10_arrange 13 = .ok (.aload_n 0, 1) := by decide +kernel
theorem dX10_arrange_14 : decode cX10_arrange 14 = .ok (.invokevirtual 133, 3) := by decide +kernel
theorem dX10_arrange_17 : decode cX10_arrange 17 = .ok (.iconst 0, 1) := by decide +kernel
theorem dX10_arrange_18 : decode cX10_arrange 18 = .ok (.istore_n 1, 1) := by decide +kernel
theorem dX10_arrange_19 : decode cX10_arrange 19 = .ok (.iconst 0, 1) := by decide +kernel
theorem dX10_arrange_20 : decode cX10_arrange 20 = .ok (.istore_n 2, 1) := by decide +kernel
theorem dX10_arrange_21 : decode cX10_arrange 21 = .ok (.iload_n 2, 1) := by decide +kernel
theorem dX10_arrange_22 : decode cX10_arrange 22 = .ok (.bipush 12, 2) := by decide +kernel
theorem dX10_arrange_24 : decode cX10_arrange 24 = .ok (.if_icmp .ge 48, 3) := by decide +kernel
theorem dX10_arrange_27 : decode cX10_arrange 27 = .ok (.iconst 0, 1) := by decide +kernel
theorem dX10_arrange_28 : decode cX10_arrange 28 = .ok (.istore_n 3, 1) := by decide +kernel
theorem dX10_arrange_29 : decode cX10_arrange 29 = .ok (.iload_n 3, 1) := by decide +kernel
theorem dX10_arrange_30 : decode cX10_arrange 30 = .ok (.aload_n 0, 1) := by decide +kernel
theorem dX10_arrange_31 : decode cX10_arrange 31 = .ok (.getfield 95, 3) := by decide +kernel
theorem dX10_arrange_34 : decode cX10_arrange 34 = .ok (.if_icmp .ge 32, 3) := by decide +kernel
theorem dX10_arrange_37 : decode cX10_arrange 37 = .ok (.aload_n 0, 1) := by decide +kernel
theorem dX10_arrange_38 : decode cX10_arrange 38 = .ok (.getfield 37, 3) := by decide +kernel
theorem dX10_arrange_41 : decode cX10_arrange 41 = .ok (.iload_n 3, 1) := by decide +kernel
theorem dX10_arrange_42 : decode cX10_arrange 42 = .ok (.iaload, 1) := by decide +kernel
theorem dX10_arrange_43 : decode cX10_arrange 43 = .ok (.invokestatic 136, 3) := by decide +kernel
theorem dX10_arrange_46 : decode cX10_arrange 46 = .ok (.iload_n 2, 1) := by decide +kernel
theorem dX10_arrange_47 : decode cX10_arrange 47 = .ok (.if_icmp .ne 13, 3) := by decide +kernel
theorem dX10_arrange_50 : decode cX10_arrange 50 = .ok (.aload_n 0, 1) := by decide +kernel
theorem dX10_arrange_51 : decode cX10_arrange 51 = .ok (.getfield 44, 3) := by decide +kernel
theorem dX10_arrange_54 : decode cX10_arrange 54 = .ok (.iload_n 1, 1) := by decide +kernel
theorem dX10_arrange_55 : decode cX10_arrange 55 = .ok (.iload_n 3, 1) := by decide +kernel
theorem dX10_arrange_56 : decode cX10_arrange 56 = .ok (.iastore, 1) := by decide +kernel
theorem dX10_arrange_57 : decode cX10_arrange 57 = .ok (.iinc 1 1, 3) := by decide +kernel
theorem dX10_arrange_60 : decode cX10_arrange 60 = .ok (.iinc 3 1, 3) := by decide +kernel
theorem dX10_arrange_63 : decode cX10_arrange 63 = .ok (.goto (-34), 3) := by decide +kernel
theorem dX10_arrange_66 : decode cX10_arrange 66 = .ok (.iinc 2 1, 3) := by decide +kernel
theorem dX10_arrange_69 : decode cX10_arrange 69 = .ok (.goto (-48), 3) := by decide +kernel
theorem dX10_arrange_72 : decode cX10_arrange 72 = .ok (.return_, 1) := by decide +kernel
theorem dX10_comesTo_0 : decode cX10_comesTo 0 = .ok (.iconst 1, 1) := by decide +kernel
theorem dX10_comesTo_1 : decode cX10_comesTo 1 = .ok (.iload_n 1, 1) := by decide +kernel
theorem dX10_comesTo_2 : decode cX10_comesTo 2 = .ok (.ishl, 1) := by decide +kernel
theorem dX10_comesTo_3 : decode cX10_comesTo 3 = .ok (.istore 4, 2) := by decide +kernel
theorem dX10_comesTo_5 : decode cX10_comesTo 5 = .ok (.iconst 0, 1) := by decide +kernel
theorem dX10_comesTo_6 : decode cX10_comesTo 6 = .ok (.istore 5, 2) := by decide +kernel
theorem dX10_comesTo_8 : decode cX10_comesTo 8 = .ok (.iload 5, 2) := by decide +kernel
theorem dX10_comesTo_10 : decode cX10_comesTo 10 = .ok (.bipush 12, 2) := by decide +kernel
theorem dX10_comesTo_12 : decode cX10_comesTo 12 = .ok (.if_icmp .ge 86, 3) := by decide +kernel
theorem dX10_comesTo_15 : decode cX10_comesTo 15 = .ok (.iconst 0, 1) := by decide +kernel
theorem dX10_comesTo_16 : decode cX10_comesTo 16 = .ok (.istore 6, 2) := by decide +kernel
theorem dX10_comesTo_18 : decode cX10_comesTo 18 = .ok (.iload 6, 2) := by decide +kernel
theorem dX10_comesTo_20 : decode cX10_comesTo 20 = .ok (.aload_n 0, 1) := by decide +kernel
theorem dX10_comesTo_21 : decode cX10_comesTo 21 = .ok (.getfield 95, 3) := by decide +kernel
theorem dX10_comesTo_24 : decode cX10_comesTo 24 = .ok (.if_icmp .ge 68, 3) := by decide +kernel
theorem dX10_comesTo_27 : decode cX10_comesTo 27 = .ok (.iload 4, 2) := by decide +kernel
theorem dX10_comesTo_29 : decode cX10_comesTo 29 = .ok (.iload 4, 2) := by decide +kernel
theorem dX10_comesTo_31 : decode cX10_comesTo 31 = .ok (.iload 6, 2) := by decide +kernel
theorem dX10_comesTo_33 : decode cX10_comesTo 33 = .ok (.ishr, 1) := by decide +kernel
theorem dX10_comesTo_34 : decode cX10_comesTo 34 = .ok (.iconst 1, 1) := by decide +kernel
theorem dX10_comesTo_35 : decode cX10_comesTo 35 = .ok (.iand, 1) := by decide +kernel
theorem dX10_comesTo_36 : decode cX10_comesTo 36 = .ok (.iconst 1, 1) := by decide +kernel
theorem dX10_comesTo_37 : decode cX10_comesTo 37 = .ok (.if_icmp .ne 17, 3) := by decide +kernel
theorem dX10_comesTo_40 : decode cX10_comesTo 40 = .ok (.aload_n 0, 1) := by decide +kernel
theorem dX10_comesTo_41 : decode cX10_comesTo 41 = .ok (.getfield 34, 3) := by decide +kernel
theorem dX10_comesTo_44 : decode cX10_comesTo 44 = .ok (.iload 6, 2) := by decide +kernel
theorem dX10_comesTo_46 : decode cX10_comesTo 46 = .ok (.iaload, 1) := by decide +kernel
theorem dX10_comesTo_47 : decode cX10_comesTo 47 = .ok (.iload_n 3, 1) := by decide +kernel
theorem dX10_comesTo_48 : decode cX10_comesTo 48 = .ok (.iconst (-1), 1) := by decide +kernel
theorem dX10_comesTo_49 : decode cX10_comesTo 49 = .ok (.ixor, 1) := by decide +kernel
theorem dX10_comesTo_50 : decode cX10_comesTo 50 = .ok (.iand, 1) := by decide +kernel
theorem dX10_comesTo_51 : decode cX10_comesTo 51 = .ok (.goto 4, 3) := by decide +kernel
theorem dX10_comesTo_54 : decode cX10_comesTo 54 = .ok (.iconst 0, 1) := by decide +kernel
theorem dX10_comesTo_55 : decode cX10_comesTo 55 = .ok (.ior, 1) := by decide +kernel
theorem dX10_comesTo_56 : decode cX10_comesTo 56 = .ok (.istore 4, 2) := by decide +kernel
theorem dX10_comesTo_58 : decode cX10_comesTo 58 = .ok (.iload 4, 2) := by decide +kernel
theorem dX10_comesTo_60 : decode cX10_comesTo 60 = .ok (.iload 6, 2) := by decide +kernel
theorem dX10_comesTo_62 : decode cX10_comesTo 62 = .ok (.ishr, 1) := by decide +kernel
theorem dX10_comesTo_63 : decode cX10_comesTo 63 = .ok (.iconst 1, 1) := by decide +kernel
theorem dX10_comesTo_64 : decode cX10_comesTo 64 = .ok (.iand, 1) := by decide +kernel
theorem dX10_comesTo_65 : decode cX10_comesTo 65 = .ok (.iconst 1, 1) := by decide +kernel
theorem dX10_comesTo_66 : decode cX10_comesTo 66 = .ok (.if_icmp .ne 20, 3) := by decide +kernel
theorem dX10_comesTo_69 : decode cX10_comesTo 69 = .ok (.aload_n 0, 1) := by decide +kernel
theorem dX10_comesTo_70 : decode cX10_comesTo 70 = .ok (.getfield 34, 3) := by decide +kernel
theorem dX10_comesTo_73 : decode cX10_comesTo 73 = .ok (.iload 6, 2) := by decide +kernel
theorem dX10_comesTo_75 : decode cX10_comesTo 75 = .ok (.iaload, 1) := by decide +kernel
theorem dX10_comesTo_76 : decode cX10_comesTo 76 = .ok (.iload_n 2, 1) := by decide +kernel
theorem dX10_comesTo_77 : decode cX10_comesTo 77 = .ok (.ishr, 1) := by decide +kernel
theorem dX10_comesTo_78 : decode cX10_comesTo 78 = .ok (.iconst 1, 1) := by decide +kernel
theorem dX10_comesTo_79 : decode cX10_comesTo 79 = .ok (.iand, 1) := by decide +kernel
theorem dX10_comesTo_80 : decode cX10_comesTo 80 = .ok (.iconst 1, 1) := by decide +kernel
theorem dX10_comesTo_81 : decode cX10_comesTo 81 = .ok (.if_icmp .ne 5, 3) := by decide +kernel
theorem dX10_comesTo_84 : decode cX10_comesTo 84 = .ok (.iconst 1, 1) := by decide +kernel
theorem dX10_comesTo_85 : decode cX10_comesTo 85 = .ok (.ireturn, 1) := by decide +kernel
theorem dX10_comesTo_86 : decode cX10_comesTo 86 = .ok (.iinc 6 1, 3) := by decide +kernel
theorem dX10_comesTo_89 : decode cX10_comesTo 89 = .ok (.goto (-71), 3) := by decide +kernel
theorem dX10_comesTo_92 : decode cX10_comesTo 92 = .ok (.iinc 5 1, 3) := by decide +kernel
theorem dX10_comesTo_95 : decode cX10_comesTo 95 = .ok (.goto (-87), 3) := by decide +kernel
theorem dX10_comesTo_98 : decode cX10_comesTo 98 = .ok (.iconst 0, 1) := by decide +kernel
theorem dX10_comesTo_99 : decode cX10_comesTo 99 = .ok (.ireturn, 1) := by decide +kernel
theorem dX10_findRing_0 : decode cX10_findRing 0 = .ok (.aload_n 0, 1) := by decide +kernel
theorem dX10_findRing_1 : decode cX10_findRing 1 = .ok (.iconst 1, 1) := by decide +kernel
theorem dX10_findRing_2 : decode cX10_findRing 2 = .ok (.putfield 139, 3) := by decide +kernel
theorem dX10_findRing_5 : decode cX10_findRing 5 = .ok (.aload_n 0, 1) := by decide +kernel
theorem dX10_findRing_6 : decode cX10_findRing 6 = .ok (.getfield 47, 3) := by decide +kernel
theorem dX10_findRing_9 : decode cX10_findRing 9 = .ok (.iconst 0, 1) := by decide +kernel
theorem dX10_findRing_10 : decode cX10_findRing 10 = .ok (.iload_n 1, 1) := by decide +kernel
theorem dX10_findRing_11 : decode cX10_findRing 11 = .ok (.iastore, 1) := by decide +kernel
theorem dX10_findRing_12 : decode cX10_findRing 12 = .ok (.iconst 1, 1) := by decide +kernel
theorem dX10_findRing_13 : decode cX10_findRing 13 = .ok (.iload_n 1, 1) := by decide +kernel
theorem dX10_findRing_14 : decode cX10_findRing 14 = .ok (.ishl, 1) := by decide +kernel
theorem dX10_findRing_15 : decode cX10_findRing 15 = .ok (.istore_n 2, 1) := by decide +kernel
theorem dX10_findRing_16 : decode cX10_findRing 16 = .ok (.iload_n 1, 1) := by decide +kernel
theorem dX10_findRing_17 : decode cX10_findRing 17 = .ok (.istore_n 3, 1) := by decide +kernel
theorem dX10_findRing_18 : decode cX10_findRing 18 = .ok (.aload_n 0, 1) := by decide +kernel
theorem dX10_findRing_19 : decode cX10_findRing 19 = .ok (.getfield 34, 3) := by decide +kernel
theorem dX10_findRing_22 : decode cX10_findRing 22 = .ok (.iload_n 3, 1) := by decide +kernel
theorem dX10_findRing_23 : decode cX10_findRing 23 = .ok (.iaload, 1) := by decide +kernel
theorem dX10_findRing_24 : decode cX10_findRing 24 = .ok (.iload_n 1, 1) := by decide +kernel
theorem dX10_findRing_25 : decode cX10_findRing 25 = .ok (.ishr, 1) := by decide +kernel
theorem dX10_findRing_26 : decode cX10_findRing 26 = .ok (.iconst 1, 1) := by decide +kernel
theorem dX10_findRing_27 : decode cX10_findRing 27 = .ok (.iand, 1) := by decide +kernel
theorem dX10_findRing_28 : decode cX10_findRing 28 = .ok (.ifCond .ne 81, 3) := by decide +kernel
theorem dX10_findRing_31 : decode cX10_findRing 31 = .ok (.iconst 0, 1) := by decide +kernel
theorem dX10_findRing_32 : decode cX10_findRing 32 = .ok (.istore 4, 2) := by decide +kernel
theorem dX10_findRing_34 : decode cX10_findRing 34 = .ok (.aload_n 0, 1) := by decide +kernel
theorem dX10_findRing_35 : decode cX10_findRing 35 = .ok (.getfield 34, 3) := by decide +kernel
theorem dX10_findRing_38 : decode cX10_findRing 38 = .ok (.iload_n 3, 1) := by decide +kernel
theorem dX10_findRing_39 : decode cX10_findRing 39 = .ok (.iaload, 1) := by decide +kernel
theorem dX10_findRing_40 : decode cX10_findRing 40 = .ok (.iload 4, 2) := by decide +kernel
theorem dX10_findRing_42 : decode cX10_findRing 42 = .ok (.ishr, 1) := by decide +kernel
theorem dX10_findRing_43 : decode cX10_findRing 43 = .ok (.iconst 1, 1) := by decide +kernel
theorem dX10_findRing_44 : decode cX10_findRing 44 = .ok (.iand, 1) := by decide +kernel
theorem dX10_findRing_45 : decode cX10_findRing 45 = .ok (.ifCond .eq 24, 3) := by decide +kernel
theorem dX10_findRing_48 : decode cX10_findRing 48 = .ok (.iload_n 2, 1) := by decide +kernel
theorem dX10_findRing_49 : decode cX10_findRing 49 = .ok (.iload 4, 2) := by decide +kernel
theorem dX10_findRing_51 : decode cX10_findRing 51 = .ok (.ishr, 1) := by decide +kernel
theorem dX10_findRing_52 : decode cX10_findRing 52 = .ok (.iconst 1, 1) := by decide +kernel
theorem dX10_findRing_53 : decode cX10_findRing 53 = .ok (.iand, 1) := by decide +kernel
theorem dX10_findRing_54 : decode cX10_findRing 54 = .ok (.iconst 1, 1) := by decide +kernel
theorem dX10_findRing_55 : decode cX10_findRing 55 = .ok (.if_icmp .eq 14, 3) := by decide +kernel
theorem dX10_findRing_58 : decode cX10_findRing 58 = .ok (.aload_n 0, 1) := by decide +kernel
theorem dX10_findRing_59 : decode cX10_findRing 59 = .ok (.iload 4, 2) := by decide +kernel
theorem dX10_findRing_61 : decode cX10_findRing 61 = .ok (.iload_n 1, 1) := by decide +kernel
theorem dX10_findRing_62 : decode cX10_findRing 62 = .ok (.iload_n 2, 1) := by decide +kernel
theorem dX10_findRing_63 : decode cX10_findRing 63 = .ok (.invokevirtual 142, 3) := by decide +kernel
theorem dX10_findRing_66 : decode cX10_findRing 66 = .ok (.ifCond .ne 9, 3) := by decide +kernel
theorem dX10_findRing_69 : decode cX10_findRing 69 = .ok (.iinc 4 1, 3) := by decide +kernel
theorem dX10_findRing_72 : decode cX10_findRing 72 = .ok (.goto (-38), 3) := by decide +kernel
theorem dX10_findRing_75 : decode cX10_findRing 75 = .ok (.aload_n 0, 1) := by decide +kernel
theorem dX10_findRing_76 : decode cX10_findRing 76 = .ok (.getfield 47, 3) := by decide +kernel
theorem dX10_findRing_79 : decode cX10_findRing 79 = .ok (.aload_n 0, 1) := by decide +kernel
theorem dX10_findRing_80 : decode cX10_findRing 80 = .ok (.getfield 139, 3) := by decide +kernel
theorem dX10_findRing_83 : decode cX10_findRing 83 = .ok (.iload 4, 2) := by decide +kernel
theorem dX10_findRing_85 : decode cX10_findRing 85 = .ok (.iastore, 1) := by decide +kernel
theorem dX10_findRing_86 : decode cX10_findRing 86 = .ok (.aload_n 0, 1) := by decide +kernel
theorem dX10_findRing_87 : decode cX10_findRing 87 = .ok (.dup, 1) := by decide +kernel
theorem dX10_findRing_88 : decode cX10_findRing 88 = .ok (.getfield 139, 3) := by decide +kernel
theorem dX10_findRing_91 : decode cX10_findRing 91 = .ok (.iconst 1, 1) := by decide +kernel
theorem dX10_findRing_92 : decode cX10_findRing 92 = .ok (.iadd, 1) := by decide +kernel
theorem dX10_findRing_93 : decode cX10_findRing 93 = .ok (.putfield 139, 3) := by decide +kernel
theorem dX10_findRing_96 : decode cX10_findRing 96 = .ok (.iload_n 2, 1) := by decide +kernel
theorem dX10_findRing_97 : decode cX10_findRing 97 = .ok (.iconst 1, 1) := by decide +kernel
theorem dX10_findRing_98 : decode cX10_findRing 98 = .ok (.iload 4, 2) := by decide +kernel
theorem dX10_findRing_100 : decode cX10_findRing 100 = .ok (.ishl, 1) := by decide +kernel
theorem dX10_findRing_101 : decode cX10_findRing 101 = .ok (.ior, 1) := by decide +kernel
theorem dX10_findRing_102 : decode cX10_findRing 102 = .ok (.istore_n 2, 1) := by decide +kernel
theorem dX10_findRing_103 : decode cX10_findRing 103 = .ok (.iload 4, 2) := by decide +kernel
theorem dX10_findRing_105 : decode cX10_findRing 105 = .ok (.istore_n 3, 1) := by decide +kernel
theorem dX10_findRing_106 : decode cX10_findRing 106 = .ok (.goto (-88), 3) := by decide +kernel
theorem dX10_findRing_109 : decode cX10_findRing 109 = .ok (.return_, 1) := by decide +kernel
theorem dX10_rule_0 : decode cX10_rule 0 = .ok (.aload_n 0, 1) := by decide +kernel
theorem dX10_rule_1 : decode cX10_rule 1 = .ok (.iload_n 1, 1) := by decide +kernel
theorem dX10_rule_2 : decode cX10_rule 2 = .ok (.invokevirtual 114, 3) := by decide +kernel
theorem dX10_rule_5 : decode cX10_rule 5 = .ok (.ifCond .ne 17, 3) := by decide +kernel
theorem dX10_rule_8 : decode cX10_rule 8 = .ok (.iload_n 3, 1) := by decide +kernel
theorem dX10_rule_9 : decode cX10_rule 9 = .ok (.bipush (-9), 2) := by decide +kernel
theorem dX10_rule_11 : decode cX10_rule 11 = .ok (.if_icmp .eq 13, 3) := by decide +kernel
theorem dX10_rule_14 : decode cX10_rule 14 = .ok (.aload_n 0, 1) := by decide +kernel
theorem dX10_rule_15 : decode cX10_rule 15 = .ok (.iload_n 3, 1) := by decide +kernel
theorem dX10_rule_16 : decode cX10_rule 16 = .ok (.invokevirtual 117, 3) := by decide +kernel
theorem dX10_rule_19 : decode cX10_rule 19 = .ok (.ifCond .eq 5, 3) := by decide +kernel
theorem dX10_rule_22 : decode cX10_rule 22 = .ok (.iconst (-1), 1) := by decide +kernel
theorem dX10_rule_23 : decode cX10_rule 23 = .ok (.ireturn, 1) := by decide +kernel
theorem dX10_rule_24 : decode cX10_rule 24 = .ok (.iload_n 2, 1) := by decide +kernel
theorem dX10_rule_25 : decode cX10_rule 25 = .ok (.iconst 0, 1) := by decide +kernel
theorem dX10_rule_26 : decode cX10_rule 26 = .ok (.iconst 3, 1) := by decide +kernel
theorem dX10_rule_27 : decode cX10_rule 27 = .ok (.invokestatic 99, 3) := by decide +kernel
theorem dX10_rule_30 : decode cX10_rule 30 = .ok (.ifCond .eq 18, 3) := by decide +kernel
theorem dX10_rule_33 : decode cX10_rule 33 = .ok (.iload_n 2, 1) := by decide +kernel
theorem dX10_rule_34 : decode cX10_rule 34 = .ok (.iconst 3, 1) := by decide +kernel
theorem dX10_rule_35 : decode cX10_rule 35 = .ok (.if_icmp .ne 16, 3) := by decide +kernel
theorem dX10_rule_38 : decode cX10_rule 38 = .ok (.aload_n 0, 1) := by decide +kernel
theorem dX10_rule_39 : decode cX10_rule 39 = .ok (.getfield 16, 3) := by decide +kernel
theorem dX10_rule_42 : decode cX10_rule 42 = .ok (.iload_n 1, 1) := by decide +kernel
theorem dX10_rule_43 : decode cX10_rule 43 = .ok (.iaload, 1) := by decide +kernel
theorem dX10_rule_44 : decode cX10_rule 44 = .ok (.iconst 1, 1) := by decide +kernel
theorem dX10_rule_45 : decode cX10_rule 45 = .ok (.if_icmp .eq 6, 3) := by decide +kernel
theorem dX10_rule_48 : decode cX10_rule 48 = .ok (.bipush (-2), 2) := by decide +kernel
theorem dX10_rule_50 : decode cX10_rule 50 = .ok (.ireturn, 1) := by decide +kernel
theorem dX10_rule_51 : decode cX10_rule 51 = .ok (.aload_n 0, 1) := by decide +kernel
theorem dX10_rule_52 : decode cX10_rule 52 = .ok (.getfield 19, 3) := by decide +kernel
theorem dX10_rule_55 : decode cX10_rule 55 = .ok (.iconst 4, 1) := by decide +kernel
theorem dX10_rule_56 : decode cX10_rule 56 = .ok (.iload_n 1, 1) := by decide +kernel
theorem dX10_rule_57 : decode cX10_rule 57 = .ok (.imul, 1) := by decide +kernel
theorem dX10_rule_58 : decode cX10_rule 58 = .ok (.iload_n 2, 1) := by decide +kernel
theorem dX10_rule_59 : decode cX10_rule 59 = .ok (.iadd, 1) := by decide +kernel
theorem dX10_rule_60 : decode cX10_rule 60 = .ok (.iaload, 1) := by decide +kernel
theorem dX10_rule_61 : decode cX10_rule 61 = .ok (.istore 4, 2) := by decide +kernel
theorem dX10_rule_63 : decode cX10_rule 63 = .ok (.aload_n 0, 1) := by decide +kernel
theorem dX10_rule_64 : decode cX10_rule 64 = .ok (.getfield 19, 3) := by decide +kernel
theorem dX10_rule_67 : decode cX10_rule 67 = .ok (.iconst 4, 1) := by decide +kernel
theorem dX10_rule_68 : decode cX10_rule 68 = .ok (.iload_n 1, 1) := by decide +kernel
theorem dX10_rule_69 : decode cX10_rule 69 = .ok (.imul, 1) := by decide +kernel
theorem dX10_rule_70 : decode cX10_rule 70 = .ok (.iload_n 2, 1) := by decide +kernel
theorem dX10_rule_71 : decode cX10_rule 71 = .ok (.iadd, 1) := by decide +kernel
theorem dX10_rule_72 : decode cX10_rule 72 = .ok (.iload_n 3, 1) := by decide +kernel
theorem dX10_rule_73 : decode cX10_rule 73 = .ok (.iastore, 1) := by decide +kernel
theorem dX10_rule_74 : decode cX10_rule 74 = .ok (.aload_n 0, 1) := by decide +kernel
theorem dX10_rule_75 : decode cX10_rule 75 = .ok (.invokevirtual 133, 3) := by decide +kernel
theorem dX10_rule_78 : decode cX10_rule 78 = .ok (.aload_n 0, 1) := by decide +kernel
theorem dX10_rule_79 : decode cX10_rule 79 = .ok (.getfield 37, 3) := by decide +kernel
theorem dX10_rule_82 : decode cX10_rule 82 = .ok (.iload_n 1, 1) := by decide +kernel
theorem dX10_rule_83 : decode cX10_rule 83 = .ok (.iaload, 1) := by decide +kernel
theorem dX10_rule_84 : decode cX10_rule 84 = .ok (.iload_n 1, 1) := by decide +kernel
theorem dX10_rule_85 : decode cX10_rule 85 = .ok (.ishr, 1) := by decide +kernel
theorem dX10_rule_86 : decode cX10_rule 86 = .ok (.iconst 1, 1) := by decide +kernel
theorem dX10_rule_87 : decode cX10_rule 87 = .ok (.iand, 1) := by decide +kernel
theorem dX10_rule_88 : decode cX10_rule 88 = .ok (.iconst 1, 1) := by decide +kernel
theorem dX10_rule_89 : decode cX10_rule 89 = .ok (.if_icmp .ne 28, 3) := by decide +kernel
theorem dX10_rule_92 : decode cX10_rule 92 = .ok (.aload_n 0, 1) := by decide +kernel
theorem dX10_rule_93 : decode cX10_rule 93 = .ok (.iload_n 1, 1) := by decide +kernel
theorem dX10_rule_94 : decode cX10_rule 94 = .ok (.invokevirtual 145, 3) := by decide +kernel
theorem dX10_rule_97 : decode cX10_rule 97 = .ok (.aload_n 0, 1) := by decide +kernel
theorem dX10_rule_98 : decode cX10_rule 98 = .ok (.getfield 19, 3) := by decide +kernel
theorem dX10_rule_101 : decode cX10_rule 101 = .ok (.iconst 4, 1) := by decide +kernel
theorem dX10_rule_102 : decode cX10_rule 102 = .ok (.iload_n 1, 1) := by decide +kernel
theorem dX10_rule_103 : decode cX10_rule 103 = .ok (.imul, 1) := by decide +kernel
theorem dX10_rule_104 : decode cX10_rule 104 = .ok (.iload_n 2, 1) := by decide +kernel
theorem dX10_rule_105 : decode cX10_rule 105 = .ok (.iadd, 1) := by decide +kernel
theorem dX10_rule_106 : decode cX10_rule 106 = .ok (.iload 4, 2) := by decide +kernel
theorem dX10_rule_108 : decode cX10_rule 108 = .ok (.iastore, 1) := by decide +kernel
theorem dX10_rule_109 : decode cX10_rule 109 = .ok (.aload_n 0, 1) := by decide +kernel
theorem dX10_rule_110 : decode cX10_rule 110 = .ok (.iconst 0, 1) := by decide +kernel
theorem dX10_rule_111 : decode cX10_rule 111 = .ok (.putfield 91, 3) := by decide +kernel
theorem dX10_rule_114 : decode cX10_rule 114 = .ok (.bipush (-3), 2) := by decide +kernel
theorem dX10_rule_116 : decode cX10_rule 116 = .ok (.ireturn, 1) := by decide +kernel
theorem dX10_rule_117 : decode cX10_rule 117 = .ok (.aload_n 0, 1) := by decide +kernel
theorem dX10_rule_118 : decode cX10_rule 118 = .ok (.iconst 0, 1) := by decide +kernel
theorem dX10_rule_119 : decode cX10_rule 119 = .ok (.putfield 91, 3) := by decide +kernel
theorem dX10_rule_122 : decode cX10_rule 122 = .ok (.iconst 1, 1) := by decide +kernel
theorem dX10_rule_123 : decode cX10_rule 123 = .ok (.ireturn, 1) := by decide +kernel
theorem dX10_ring_0 : decode cX10_ring 0 = .ok (.iload_n 1, 1) := by decide +kernel
theorem dX10_ring_1 : decode cX10_ring 1 = .ok (.iconst 0, 1) := by decide +kernel
theorem dX10_ring_2 : decode cX10_ring 2 = .ok (.aload_n 0, 1) := by decide +kernel
theorem dX10_ring_3 : decode cX10_ring 3 = .ok (.getfield 139, 3) := by decide +kernel
theorem dX10_ring_6 : decode cX10_ring 6 = .ok (.iconst 1, 1) := by decide +kernel
theorem dX10_ring_7 : decode cX10_ring 7 = .ok (.isub, 1) := by decide +kernel
theorem dX10_ring_8 : decode cX10_ring 8 = .ok (.invokestatic 99, 3) := by decide +kernel
theorem dX10_ring_11 : decode cX10_ring 11 = .ok (.ifCond .eq 12, 3) := by decide +kernel
theorem dX10_ring_14 : decode cX10_ring 14 = .ok (.aload_n 0, 1) := by decide +kernel
theorem dX10_ring_15 : decode cX10_ring 15 = .ok (.getfield 47, 3) := by decide +kernel
theorem dX10_ring_18 : decode cX10_ring 18 = .ok (.iload_n 1, 1) := by decide +kernel
theorem dX10_ring_19 : decode cX10_ring 19 = .ok (.iaload, 1) := by decide +kernel
theorem dX10_ring_20 : decode cX10_ring 20 = .ok (.goto 4, 3) := by decide +kernel
theorem dX10_ring_23 : decode cX10_ring 23 = .ok (.iconst (-1), 1) := by decide +kernel
theorem dX10_ring_24 : decode cX10_ring 24 = .ok (.ireturn, 1) := by decide +kernel
theorem dX10_about_0 : decode cX10_about 0 = .ok (.aload_n 0, 1) := by decide +kernel
theorem dX10_about_1 : decode cX10_about 1 = .ok (.iload_n 1, 1) := by decide +kernel
theorem dX10_about_2 : decode cX10_about 2 = .ok (.invokevirtual 114, 3) := by decide +kernel
theorem dX10_about_5 : decode cX10_about 5 = .ok (.ifCond .eq 5, 3) := by decide +kernel
theorem dX10_about_8 : decode cX10_about 8 = .ok (.iconst (-1), 1) := by decide +kernel
theorem dX10_about_9 : decode cX10_about 9 = .ok (.ireturn, 1) := by decide +kernel
theorem dX10_about_10 : decode cX10_about 10 = .ok (.iload_n 2, 1) := by decide +kernel
theorem dX10_about_11 : decode cX10_about 11 = .ok (.iconst 3, 1) := by decide +kernel
theorem dX10_about_12 : decode cX10_about 12 = .ok (.bipush 6, 2) := by decide +kernel
theorem dX10_about_14 : decode cX10_about 14 = .ok (.invokestatic 99, 3) := by decide +kernel
theorem dX10_about_17 : decode cX10_about 17 = .ok (.ifCond .eq 16, 3) := by decide +kernel
theorem dX10_about_20 : decode cX10_about 20 = .ok (.aload_n 0, 1) := by decide +kernel
theorem dX10_about_21 : decode cX10_about 21 = .ok (.getfield 19, 3) := by decide +kernel
theorem dX10_about_24 : decode cX10_about 24 = .ok (.iconst 4, 1) := by decide +kernel
theorem dX10_about_25 : decode cX10_about 25 = .ok (.iload_n 1, 1) := by decide +kernel
theorem dX10_about_26 : decode cX10_about 26 = .ok (.imul, 1) := by decide +kernel
theorem dX10_about_27 : decode cX10_about 27 = .ok (.iload_n 2, 1) := by decide +kernel
theorem dX10_about_28 : decode cX10_about 28 = .ok (.iadd, 1) := by decide +kernel
theorem dX10_about_29 : decode cX10_about 29 = .ok (.iconst 3, 1) := by decide +kernel
theorem dX10_about_30 : decode cX10_about 30 = .ok (.isub, 1) := by decide +kernel
theorem dX10_about_31 : decode cX10_about 31 = .ok (.iaload, 1) := by decide +kernel
theorem dX10_about_32 : decode cX10_about 32 = .ok (.ireturn, 1) := by decide +kernel
theorem dX10_about_33 : decode cX10_about 33 = .ok (.aload_n 0, 1) := by decide +kernel
theorem dX10_about_34 : decode cX10_about 34 = .ok (.invokevirtual 149, 3) := by decide +kernel
theorem dX10_about_37 : decode cX10_about 37 = .ok (.iload_n 2, 1) := by decide +kernel
theorem dX10_about_38 : decode cX10_about 38 = .ok (.tableswitch 87 0 8 #[50, 57, 64, 87, 87, 87, 87, 71, 81], 50) := by decide +kernel
theorem dX10_about_88 : decode cX10_about 88 = .ok (.aload_n 0, 1) := by decide +kernel
theorem dX10_about_89 : decode cX10_about 89 = .ok (.getfield 7, 3) := by decide +kernel
theorem dX10_about_92 : decode cX10_about 92 = .ok (.iload_n 1, 1) := by decide +kernel
theorem dX10_about_93 : decode cX10_about 93 = .ok (.iaload, 1) := by decide +kernel
theorem dX10_about_94 : decode cX10_about 94 = .ok (.ireturn, 1) := by decide +kernel
theorem dX10_about_95 : decode cX10_about 95 = .ok (.aload_n 0, 1) := by decide +kernel
theorem dX10_about_96 : decode cX10_about 96 = .ok (.getfield 13, 3) := by decide +kernel
theorem dX10_about_99 : decode cX10_about 99 = .ok (.iload_n 1, 1) := by decide +kernel
theorem dX10_about_100 : decode cX10_about 100 = .ok (.iaload, 1) := by decide +kernel
theorem dX10_about_101 : decode cX10_about 101 = .ok (.ireturn, 1) := by decide +kernel
theorem dX10_about_102 : decode cX10_about 102 = .ok (.aload_n 0, 1) := by decide +kernel
theorem dX10_about_103 : decode cX10_about 103 = .ok (.getfield 16, 3) := by decide +kernel
theorem dX10_about_106 : decode cX10_about 106 = .ok (.iload_n 1, 1) := by decide +kernel
theorem dX10_about_107 : decode cX10_about 107 = .ok (.iaload, 1) := by decide +kernel
theorem dX10_about_108 : decode cX10_about 108 = .ok (.ireturn, 1) := by decide +kernel
theorem dX10_about_109 : decode cX10_about 109 = .ok (.aload_n 0, 1) := by decide +kernel
theorem dX10_about_110 : decode cX10_about 110 = .ok (.getfield 37, 3) := by decide +kernel
theorem dX10_about_113 : decode cX10_about 113 = .ok (.iload_n 1, 1) := by decide +kernel
theorem dX10_about_114 : decode cX10_about 114 = .ok (.iaload, 1) := by decide +kernel
theorem dX10_about_115 : decode cX10_about 115 = .ok (.invokestatic 136, 3) := by decide +kernel
theorem dX10_about_118 : decode cX10_about 118 = .ok (.ireturn, 1) := by decide +kernel
theorem dX10_about_119 : decode cX10_about 119 = .ok (.aload_n 0, 1) := by decide +kernel
theorem dX10_about_120 : decode cX10_about 120 = .ok (.iload_n 1, 1) := by decide +kernel
theorem dX10_about_121 : decode cX10_about 121 = .ok (.invokevirtual 152, 3) := by decide +kernel
theorem dX10_about_124 : decode cX10_about 124 = .ok (.ireturn, 1) := by decide +kernel
theorem dX10_about_125 : decode cX10_about 125 = .ok (.bipush (-2), 2) := by decide +kernel
theorem dX10_about_127 : decode cX10_about 127 = .ok (.ireturn, 1) := by decide +kernel
theorem dX10_followers_0 : decode cX10_followers 0 = .ok (.iconst 0, 1) := by decide +kernel
theorem dX10_followers_1 : decode cX10_followers 1 = .ok (.istore_n 2, 1) := by decide +kernel
theorem dX10_followers_2 : decode cX10_followers 2 = .ok (.iconst 0, 1) := by decide +kernel
theorem dX10_followers_3 : decode cX10_followers 3 = .ok (.istore_n 3, 1) := by decide +kernel
theorem dX10_followers_4 : decode cX10_followers 4 = .ok (.iload_n 3, 1) := by decide +kernel
theorem dX10_followers_5 : decode cX10_followers 5 = .ok (.aload_n 0, 1) := by decide +kernel
theorem dX10_followers_6 : decode cX10_followers 6 = .ok (.getfield 95, 3) := by decide +kernel
theorem dX10_followers_9 : decode cX10_followers 9 = .ok (.if_icmp .ge 22, 3) := by decide +kernel
theorem dX10_followers_12 : decode cX10_followers 12 = .ok (.iload_n 2, 1) := by decide +kernel
theorem dX10_followers_13 : decode cX10_followers 13 = .ok (.aload_n 0, 1) := by decide +kernel
theorem dX10_followers_14 : decode cX10_followers 14 = .ok (.getfield 37, 3) := by decide +kernel
theorem dX10_followers_17 : decode cX10_followers 17 = .ok (.iload_n 3, 1) := by decide +kernel
theorem dX10_followers_18 : decode cX10_followers 18 = .ok (.iaload, 1) := by decide +kernel
theorem dX10_followers_19 : decode cX10_followers 19 = .ok (.iload_n 1, 1) := by decide +kernel
theorem dX10_followers_20 : decode cX10_followers 20 = .ok (.ishr, 1) := by decide +kernel
theorem dX10_followers_21 : decode cX10_followers 21 = .ok (.iconst 1, 1) := by decide +kernel
theorem dX10_followers_22 : decode cX10_followers 22 = .ok (.iand, 1) := by decide +kernel
theorem dX10_followers_23 : decode cX10_followers 23 = .ok (.iadd, 1) := by decide +kernel
theorem dX10_followers_24 : decode cX10_followers 24 = .ok (.istore_n 2, 1) := by decide +kernel
theorem dX10_followers_25 : decode cX10_followers 25 = .ok (.iinc 3 1, 3) := by decide +kernel
theorem dX10_followers_28 : decode cX10_followers 28 = .ok (.goto (-24), 3) := by decide +kernel
theorem dX10_followers_31 : decode cX10_followers 31 = .ok (.iload_n 2, 1) := by decide +kernel
theorem dX10_followers_32 : decode cX10_followers 32 = .ok (.ireturn, 1) := by decide +kernel
theorem dX10_hangs_0 : decode cX10_hangs 0 = .ok (.aload_n 0, 1) := by decide +kernel
theorem dX10_hangs_1 : decode cX10_hangs 1 = .ok (.iload_n 1, 1) := by decide +kernel
theorem dX10_hangs_2 : decode cX10_hangs 2 = .ok (.invokevirtual 114, 3) := by decide +kernel
theorem dX10_hangs_5 : decode cX10_hangs 5 = .ok (.ifCond .ne 11, 3) := by decide +kernel
theorem dX10_hangs_8 : decode cX10_hangs 8 = .ok (.aload_n 0, 1) := by decide +kernel
theorem dX10_hangs_9 : decode cX10_hangs 9 = .ok (.iload_n 2, 1) := by decide +kernel
theorem dX10_hangs_10 : decode cX10_hangs 10 = .ok (.invokevirtual 114, 3) := by decide +kernel
theorem dX10_hangs_13 : decode cX10_hangs 13 = .ok (.ifCond .eq 5, 3) := by decide +kernel
theorem dX10_hangs_16 : decode cX10_hangs 16 = .ok (.iconst (-1), 1) := by decide +kernel
theorem dX10_hangs_17 : decode cX10_hangs 17 = .ok (.ireturn, 1) := by decide +kernel
theorem dX10_hangs_18 : decode cX10_hangs 18 = .ok (.aload_n 0, 1) := by decide +kernel
theorem dX10_hangs_19 : decode cX10_hangs 19 = .ok (.invokevirtual 149, 3) := by decide +kernel
theorem dX10_hangs_22 : decode cX10_hangs 22 = .ok (.aload_n 0, 1) := by decide +kernel
theorem dX10_hangs_23 : decode cX10_hangs 23 = .ok (.getfield 37, 3) := by decide +kernel
theorem dX10_hangs_26 : decode cX10_hangs 26 = .ok (.iload_n 1, 1) := by decide +kernel
theorem dX10_hangs_27 : decode cX10_hangs 27 = .ok (.iaload, 1) := by decide +kernel
theorem dX10_hangs_28 : decode cX10_hangs 28 = .ok (.iload_n 2, 1) := by decide +kernel
theorem dX10_hangs_29 : decode cX10_hangs 29 = .ok (.ishr, 1) := by decide +kernel
theorem dX10_hangs_30 : decode cX10_hangs 30 = .ok (.iconst 1, 1) := by decide +kernel
theorem dX10_hangs_31 : decode cX10_hangs 31 = .ok (.iand, 1) := by decide +kernel
theorem dX10_hangs_32 : decode cX10_hangs 32 = .ok (.ireturn, 1) := by decide +kernel
theorem dX10_cut_0 : decode cX10_cut 0 = .ok (.lload_n 0, 1) := by decide +kernel
theorem dX10_cut_1 : decode cX10_cut 1 = .ok (.ldc2_w 155, 3) := by decide +kernel
theorem dX10_cut_4 : decode cX10_cut 4 = .ok (.lcmp, 1) := by decide +kernel
theorem dX10_cut_5 : decode cX10_cut 5 = .ok (.ifCond .le 8, 3) := by decide +kernel
theorem dX10_cut_8 : decode cX10_cut 8 = .ok (.ldc 121, 2) := by decide +kernel
theorem dX10_cut_10 : decode cX10_cut 10 = .ok (.goto 18, 3) := by decide +kernel
theorem dX10_cut_13 : decode cX10_cut 13 = .ok (.lload_n 0, 1) := by decide +kernel
theorem dX10_cut_14 : decode cX10_cut 14 = .ok (.ldc2_w 157, 3) := by decide +kernel
theorem dX10_cut_17 : decode cX10_cut 17 = .ok (.lcmp, 1) := by decide +kernel
theorem dX10_cut_18 : decode cX10_cut 18 = .ok (.ifCond .ge 8, 3) := by decide +kernel
theorem dX10_cut_21 : decode cX10_cut 21 = .ok (.ldc 120, 2) := by decide +kernel
theorem dX10_cut_23 : decode cX10_cut 23 = .ok (.goto 5, 3) := by decide +kernel
theorem dX10_cut_26 : decode cX10_cut 26 = .ok (.lload_n 0, 1) := by decide +kernel
theorem dX10_cut_27 : decode cX10_cut 27 = .ok (.l2i, 1) := by decide +kernel
theorem dX10_cut_28 : decode cX10_cut 28 = .ok (.ireturn, 1) := by decide +kernel
theorem dX10_ofTwo_0 : decode cX10_ofTwo 0 = .ok (.iload_n 0, 1) := by decide +kernel
theorem dX10_ofTwo_1 : decode cX10_ofTwo 1 = .ok (.bipush 7, 2) := by decide +kernel
theorem dX10_ofTwo_3 : decode cX10_ofTwo 3 = .ok (.if_icmp .ne 34, 3) := by decide +kernel
theorem dX10_ofTwo_6 : decode cX10_ofTwo 6 = .ok (.iload_n 1, 1) := by decide +kernel
theorem dX10_ofTwo_7 : decode cX10_ofTwo 7 = .ok (.ifCond .eq 7, 3) := by decide +kernel
theorem dX10_ofTwo_10 : decode cX10_ofTwo 10 = .ok (.iload_n 2, 1) := by decide +kernel
theorem dX10_ofTwo_11 : decode cX10_ofTwo 11 = .ok (.ifCond .ne 7, 3) := by decide +kernel
theorem dX10_ofTwo_14 : decode cX10_ofTwo 14 = .ok (.iconst 0, 1) := by decide +kernel
theorem dX10_ofTwo_15 : decode cX10_ofTwo 15 = .ok (.goto 21, 3) := by decide +kernel
theorem dX10_ofTwo_18 : decode cX10_ofTwo 18 = .ok (.iload_n 1, 1) := by decide +kernel
theorem dX10_ofTwo_19 : decode cX10_ofTwo 19 = .ok (.ldc 90, 2) := by decide +kernel
theorem dX10_ofTwo_21 : decode cX10_ofTwo 21 = .ok (.if_icmp .eq 9, 3) := by decide +kernel
theorem dX10_ofTwo_24 : decode cX10_ofTwo 24 = .ok (.iload_n 2, 1) := by decide +kernel
theorem dX10_ofTwo_25 : decode cX10_ofTwo 25 = .ok (.ldc 90, 2) := by decide +kernel
theorem dX10_ofTwo_27 : decode cX10_ofTwo 27 = .ok (.if_icmp .ne 8, 3) := by decide +kernel
theorem dX10_ofTwo_30 : decode cX10_ofTwo 30 = .ok (.ldc 90, 2) := by decide +kernel
theorem dX10_ofTwo_32 : decode cX10_ofTwo 32 = .ok (.goto 4, 3) := by decide +kernel
theorem dX10_ofTwo_35 : decode cX10_ofTwo 35 = .ok (.iconst 1, 1) := by decide +kernel
theorem dX10_ofTwo_36 : decode cX10_ofTwo 36 = .ok (.ireturn, 1) := by decide +kernel
theorem dX10_ofTwo_37 : decode cX10_ofTwo 37 = .ok (.iload_n 0, 1) := by decide +kernel
theorem dX10_ofTwo_38 : decode cX10_ofTwo 38 = .ok (.bipush 8, 2) := by decide +kernel
theorem dX10_ofTwo_40 : decode cX10_ofTwo 40 = .ok (.if_icmp .ne 46, 3) := by decide +kernel
theorem dX10_ofTwo_43 : decode cX10_ofTwo 43 = .ok (.iload_n 1, 1) := by decide +kernel
theorem dX10_ofTwo_44 : decode cX10_ofTwo 44 = .ok (.ldc 90, 2) := by decide +kernel
theorem dX10_ofTwo_46 : decode cX10_ofTwo 46 = .ok (.if_icmp .eq 7, 3) := by decide +kernel
theorem dX10_ofTwo_49 : decode cX10_ofTwo 49 = .ok (.iload_n 1, 1) := by decide +kernel
theorem dX10_ofTwo_50 : decode cX10_ofTwo 50 = .ok (.ifCond .ne 13, 3) := by decide +kernel
theorem dX10_ofTwo_53 : decode cX10_ofTwo 53 = .ok (.iload_n 2, 1) := by decide +kernel
theorem dX10_ofTwo_54 : decode cX10_ofTwo 54 = .ok (.ldc 90, 2) := by decide +kernel
theorem dX10_ofTwo_56 : decode cX10_ofTwo 56 = .ok (.if_icmp .eq 11, 3) := by decide +kernel
theorem dX10_ofTwo_59 : decode cX10_ofTwo 59 = .ok (.iload_n 2, 1) := by decide +kernel
theorem dX10_ofTwo_60 : decode cX10_ofTwo 60 = .ok (.ifCond .eq 7, 3) := by decide +kernel
theorem dX10_ofTwo_63 : decode cX10_ofTwo 63 = .ok (.iconst 1, 1) := by decide +kernel
theorem dX10_ofTwo_64 : decode cX10_ofTwo 64 = .ok (.goto 21, 3) := by decide +kernel
theorem dX10_ofTwo_67 : decode cX10_ofTwo 67 = .ok (.iload_n 1, 1) := by decide +kernel
theorem dX10_ofTwo_68 : decode cX10_ofTwo 68 = .ok (.ldc 90, 2) := by decide +kernel
theorem dX10_ofTwo_70 : decode cX10_ofTwo 70 = .ok (.if_icmp .eq 9, 3) := by decide +kernel
theorem dX10_ofTwo_73 : decode cX10_ofTwo 73 = .ok (.iload_n 2, 1) := by decide +kernel
theorem dX10_ofTwo_74 : decode cX10_ofTwo 74 = .ok (.ldc 90, 2) := by decide +kernel
theorem dX10_ofTwo_76 : decode cX10_ofTwo 76 = .ok (.if_icmp .ne 8, 3) := by decide +kernel
theorem dX10_ofTwo_79 : decode cX10_ofTwo 79 = .ok (.ldc 90, 2) := by decide +kernel
theorem dX10_ofTwo_81 : decode cX10_ofTwo 81 = .ok (.goto 4, 3) := by decide +kernel
theorem dX10_ofTwo_84 : decode cX10_ofTwo 84 = .ok (.iconst 0, 1) := by decide +kernel
theorem dX10_ofTwo_85 : decode cX10_ofTwo 85 = .ok (.ireturn, 1) := by decide +kernel
theorem dX10_ofTwo_86 : decode cX10_ofTwo 86 = .ok (.iload_n 1, 1) := by decide +kernel
theorem dX10_ofTwo_87 : decode cX10_ofTwo 87 = .ok (.ldc 90, 2) := by decide +kernel
theorem dX10_ofTwo_89 : decode cX10_ofTwo 89 = .ok (.if_icmp .eq 9, 3) := by decide +kernel
theorem dX10_ofTwo_92 : decode cX10_ofTwo 92 = .ok (.iload_n 2, 1) := by decide +kernel
theorem dX10_ofTwo_93 : decode cX10_ofTwo 93 = .ok (.ldc 90, 2) := by decide +kernel
theorem dX10_ofTwo_95 : decode cX10_ofTwo 95 = .ok (.if_icmp .ne 6, 3) := by decide +kernel
theorem dX10_ofTwo_98 : decode cX10_ofTwo 98 = .ok (.ldc 90, 2) := by decide +kernel
theorem dX10_ofTwo_100 : decode cX10_ofTwo 100 = .ok (.ireturn, 1) := by decide +kernel
theorem dX10_ofTwo_101 : decode cX10_ofTwo 101 = .ok (.iload_n 0, 1) := by decide +kernel
theorem dX10_ofTwo_102 : decode cX10_ofTwo 102 = .ok (.tableswitch 68 2 5 #[30, 39, 48, 57], 30) := by decide +kernel
theorem dX10_ofTwo_132 : decode cX10_ofTwo 132 = .ok (.iload_n 1, 1) := by decide +kernel
theorem dX10_ofTwo_133 : decode cX10_ofTwo 133 = .ok (.i2l, 1) := by decide +kernel
theorem dX10_ofTwo_134 : decode cX10_ofTwo 134 = .ok (.iload_n 2, 1) := by decide +kernel
theorem dX10_ofTwo_135 : decode cX10_ofTwo 135 = .ok (.i2l, 1) := by decide +kernel
theorem dX10_ofTwo_136 : decode cX10_ofTwo 136 = .ok (.ladd, 1) := by decide +kernel
theorem dX10_ofTwo_137 : decode cX10_ofTwo 137 = .ok (.invokestatic 159, 3) := by decide +kernel
theorem dX10_ofTwo_140 : decode cX10_ofTwo 140 = .ok (.ireturn, 1) := by decide +kernel
theorem dX10_ofTwo_141 : decode cX10_ofTwo 141 = .ok (.iload_n 1, 1) := by decide +kernel
theorem dX10_ofTwo_142 : decode cX10_ofTwo 142 = .ok (.i2l, 1) := by decide +kernel
theorem dX10_ofTwo_143 : decode cX10_ofTwo 143 = .ok (.iload_n 2, 1) := by decide +kernel
theorem dX10_ofTwo_144 : decode cX10_ofTwo 144 = .ok (.i2l, 1) := by decide +kernel
theorem dX10_ofTwo_145 : decode cX10_ofTwo 145 = .ok (.lsub, 1) := by decide +kernel
theorem dX10_ofTwo_146 : decode cX10_ofTwo 146 = .ok (.invokestatic 159, 3) := by decide +kernel
theorem dX10_ofTwo_149 : decode cX10_ofTwo 149 = .ok (.ireturn, 1) := by decide +kernel
theorem dX10_ofTwo_150 : decode cX10_ofTwo 150 = .ok (.iload_n 1, 1) := by decide +kernel
theorem dX10_ofTwo_151 : decode cX10_ofTwo 151 = .ok (.i2l, 1) := by decide +kernel
theorem dX10_ofTwo_152 : decode cX10_ofTwo 152 = .ok (.iload_n 2, 1) := by decide +kernel
theorem dX10_ofTwo_153 : decode cX10_ofTwo 153 = .ok (.i2l, 1) := by decide +kernel
theorem dX10_ofTwo_154 : decode cX10_ofTwo 154 = .ok (.lmul, 1) := by decide +kernel
theorem dX10_ofTwo_155 : decode cX10_ofTwo 155 = .ok (.invokestatic 159, 3) := by decide +kernel
theorem dX10_ofTwo_158 : decode cX10_ofTwo 158 = .ok (.ireturn, 1) := by decide +kernel
theorem dX10_ofTwo_159 : decode cX10_ofTwo 159 = .ok (.iload_n 1, 1) := by decide +kernel
theorem dX10_ofTwo_160 : decode cX10_ofTwo 160 = .ok (.iload_n 2, 1) := by decide +kernel
theorem dX10_ofTwo_161 : decode cX10_ofTwo 161 = .ok (.if_icmp .ne 7, 3) := by decide +kernel
theorem dX10_ofTwo_164 : decode cX10_ofTwo 164 = .ok (.iconst 1, 1) := by decide +kernel
theorem dX10_ofTwo_165 : decode cX10_ofTwo 165 = .ok (.goto 4, 3) := by decide +kernel
theorem dX10_ofTwo_168 : decode cX10_ofTwo 168 = .ok (.iconst 0, 1) := by decide +kernel
theorem dX10_ofTwo_169 : decode cX10_ofTwo 169 = .ok (.ireturn, 1) := by decide +kernel
theorem dX10_ofTwo_170 : decode cX10_ofTwo 170 = .ok (.iload_n 1, 1) := by decide +kernel
theorem dX10_ofTwo_171 : decode cX10_ofTwo 171 = .ok (.iload_n 2, 1) := by decide +kernel
theorem dX10_ofTwo_172 : decode cX10_ofTwo 172 = .ok (.if_icmp .ge 7, 3) := by decide +kernel
theorem dX10_ofTwo_175 : decode cX10_ofTwo 175 = .ok (.iconst 1, 1) := by decide +kernel
theorem dX10_ofTwo_176 : decode cX10_ofTwo 176 = .ok (.goto 4, 3) := by decide +kernel
theorem dX10_ofTwo_179 : decode cX10_ofTwo 179 = .ok (.iconst 0, 1) := by decide +kernel
theorem dX10_ofTwo_180 : decode cX10_ofTwo 180 = .ok (.ireturn, 1) := by decide +kernel
theorem dX10_work_0 : decode cX10_work 0 = .ok (.aload_n 0, 1) := by decide +kernel
theorem dX10_work_1 : decode cX10_work 1 = .ok (.getfield 22, 3) := by decide +kernel
theorem dX10_work_4 : decode cX10_work 4 = .ok (.iload_n 1, 1) := by decide +kernel
theorem dX10_work_5 : decode cX10_work 5 = .ok (.iaload, 1) := by decide +kernel
theorem dX10_work_6 : decode cX10_work 6 = .ok (.istore_n 2, 1) := by decide +kernel
theorem dX10_work_7 : decode cX10_work 7 = .ok (.iload_n 2, 1) := by decide +kernel
theorem dX10_work_8 : decode cX10_work 8 = .ok (.ifCond .ne 18, 3) := by decide +kernel
theorem dX10_work_11 : decode cX10_work 11 = .ok (.aload_n 0, 1) := by decide +kernel
theorem dX10_work_12 : decode cX10_work 12 = .ok (.getfield 63, 3) := by decide +kernel
theorem dX10_work_15 : decode cX10_work 15 = .ok (.iload_n 1, 1) := by decide +kernel
theorem dX10_work_16 : decode cX10_work 16 = .ok (.aload_n 0, 1) := by decide +kernel
theorem dX10_work_17 : decode cX10_work 17 = .ok (.getfield 25, 3) := by decide +kernel
theorem dX10_work_20 : decode cX10_work 20 = .ok (.iload_n 1, 1) := by decide +kernel
theorem dX10_work_21 : decode cX10_work 21 = .ok (.iaload, 1) := by decide +kernel
theorem dX10_work_22 : decode cX10_work 22 = .ok (.iastore, 1) := by decide +kernel
theorem dX10_work_23 : decode cX10_work 23 = .ok (.goto 226, 3) := by decide +kernel
theorem dX10_work_26 : decode cX10_work 26 = .ok (.iload_n 2, 1) := by decide +kernel
theorem dX10_work_27 : decode cX10_work 27 = .ok (.iconst 1, 1) := by decide +kernel
theorem dX10_work_28 : decode cX10_work 28 = .ok (.if_icmp .ne 23, 3) := by decide +kernel
theorem dX10_work_31 : decode cX10_work 31 = .ok (.aload_n 0, 1) := by decide +kernel
theorem dX10_work_32 : decode cX10_work 32 = .ok (.getfield 63, 3) := by decide +kernel
theorem dX10_work_35 : decode cX10_work 35 = .ok (.iload_n 1, 1) := by decide +kernel
theorem dX10_work_36 : decode cX10_work 36 = .ok (.aload_n 0, 1) := by decide +kernel
theorem dX10_work_37 : decode cX10_work 37 = .ok (.getfield 60, 3) := by decide +kernel
theorem dX10_work_40 : decode cX10_work 40 = .ok (.aload_n 0, 1) := by decide +kernel
theorem dX10_work_41 : decode cX10_work 41 = .ok (.getfield 25, 3) := by decide +kernel
theorem dX10_work_44 : decode cX10_work 44 = .ok (.iload_n 1, 1) := by decide +kernel
theorem dX10_work_45 : decode cX10_work 45 = .ok (.iaload, 1) := by decide +kernel
theorem dX10_work_46 : decode cX10_work 46 = .ok (.iaload, 1) := by decide +kernel
theorem dX10_work_47 : decode cX10_work 47 = .ok (.iastore, 1) := by decide +kernel
theorem dX10_work_48 : decode cX10_work 48 = .ok (.goto 201, 3) := by decide +kernel
theorem dX10_work_51 : decode cX10_work 51 = .ok (.iload_n 2, 1) := by decide +kernel
theorem dX10_work_52 : decode cX10_work 52 = .ok (.bipush 10, 2) := by decide +kernel
theorem dX10_work_54 : decode cX10_work 54 = .ok (.if_icmp .ne 33, 3) := by decide +kernel
theorem dX10_work_57 : decode cX10_work 57 = .ok (.aload_n 0, 1) := by decide +kernel
theorem dX10_work_58 : decode cX10_work 58 = .ok (.getfield 63, 3) := by decide +kernel
theorem dX10_work_61 : decode cX10_work 61 = .ok (.iload_n 1, 1) := by decide +kernel
theorem dX10_work_62 : decode cX10_work 62 = .ok (.aload_n 0, 1) := by decide +kernel
theorem dX10_work_63 : decode cX10_work 63 = .ok (.getfield 60, 3) := by decide +kernel
theorem dX10_work_66 : decode cX10_work 66 = .ok (.aload_n 0, 1) := by decide +kernel
theorem dX10_work_67 : decode cX10_work 67 = .ok (.getfield 25, 3) := by decide +kernel
theorem dX10_work_70 : decode cX10_work 70 = .ok (.iload_n 1, 1) := by decide +kernel
theorem dX10_work_71 : decode cX10_work 71 = .ok (.iaload, 1) := by decide +kernel
theorem dX10_work_72 : decode cX10_work 72 = .ok (.iaload, 1) := by decide +kernel
theorem dX10_work_73 : decode cX10_work 73 = .ok (.ldc 90, 2) := by decide +kernel
theorem dX10_work_75 : decode cX10_work 75 = .ok (.if_icmp .ne 7, 3) := by decide +kernel
theorem dX10_work_78 : decode cX10_work 78 = .ok (.iconst 0, 1) := by decide +kernel
theorem dX10_work_79 : decode cX10_work 79 = .ok (.goto 4, 3) := by decide +kernel
theorem dX10_work_82 : decode cX10_work 82 = .ok (.iconst 1, 1) := by decide +kernel
theorem dX10_work_83 : decode cX10_work 83 = .ok (.iastore, 1) := by decide +kernel
theorem dX10_work_84 : decode cX10_work 84 = .ok (.goto 165, 3) := by decide +kernel
theorem dX10_work_87 : decode cX10_work 87 = .ok (.iload_n 2, 1) := by decide +kernel
theorem dX10_work_88 : decode cX10_work 88 = .ok (.bipush 9, 2) := by decide +kernel
theorem dX10_work_90 : decode cX10_work 90 = .ok (.if_icmp .ne 52, 3) := by decide +kernel
theorem dX10_work_93 : decode cX10_work 93 = .ok (.aload_n 0, 1) := by decide +kernel
theorem dX10_work_94 : decode cX10_work 94 = .ok (.getfield 63, 3) := by decide +kernel
theorem dX10_work_97 : decode cX10_work 97 = .ok (.iload_n 1, 1) := by decide +kernel
theorem dX10_work_98 : decode cX10_work 98 = .ok (.aload_n 0, 1) := by decide +kernel
theorem dX10_work_99 : decode cX10_work 99 = .ok (.getfield 63, 3) := by decide +kernel
theorem dX10_work_102 : decode cX10_work 102 = .ok (.aload_n 0, 1) := by decide +kernel
theorem dX10_work_103 : decode cX10_work 103 = .ok (.getfield 25, 3) := by decide +kernel
theorem dX10_work_106 : decode cX10_work 106 = .ok (.iload_n 1, 1) := by decide +kernel
theorem dX10_work_107 : decode cX10_work 107 = .ok (.iaload, 1) := by decide +kernel
theorem dX10_work_108 : decode cX10_work 108 = .ok (.iaload, 1) := by decide +kernel
theorem dX10_work_109 : decode cX10_work 109 = .ok (.ldc 90, 2) := by decide +kernel
theorem dX10_work_111 : decode cX10_work 111 = .ok (.if_icmp .ne 8, 3) := by decide +kernel
theorem dX10_work_114 : decode cX10_work 114 = .ok (.ldc 90, 2) := by decide +kernel
theorem dX10_work_116 : decode cX10_work 116 = .ok (.goto 22, 3) := by decide +kernel
theorem dX10_work_119 : decode cX10_work 119 = .ok (.aload_n 0, 1) := by decide +kernel
theorem dX10_work_120 : decode cX10_work 120 = .ok (.getfield 63, 3) := by decide +kernel
theorem dX10_work_123 : decode cX10_work 123 = .ok (.aload_n 0, 1) := by decide +kernel
theorem dX10_work_124 : decode cX10_work 124 = .ok (.getfield 25, 3) := by decide +kernel
theorem dX10_work_127 : decode cX10_work 127 = .ok (.iload_n 1, 1) := by decide +kernel
theorem dX10_work_128 : decode cX10_work 128 = .ok (.iaload, 1) := by decide +kernel
theorem dX10_work_129 : decode cX10_work 129 = .ok (.iaload, 1) := by decide +kernel
theorem dX10_work_130 : decode cX10_work 130 = .ok (.ifCond .ne 7, 3) := by decide +kernel
theorem dX10_work_133 : decode cX10_work 133 = .ok (.iconst 1, 1) := by decide +kernel
theorem dX10_work_134 : decode cX10_work 134 = .ok (.goto 4, 3) := by decide +kernel
theorem dX10_work_137 : decode cX10_work 137 = .ok (.iconst 0, 1) := by decide +kernel
theorem dX10_work_138 : decode cX10_work 138 = .ok (.iastore, 1) := by decide +kernel
theorem dX10_work_139 : decode cX10_work 139 = .ok (.goto 110, 3) := by decide +kernel
theorem dX10_work_142 : decode cX10_work 142 = .ok (.iload_n 2, 1) := by decide +kernel
theorem dX10_work_143 : decode cX10_work 143 = .ok (.bipush 11, 2) := by decide +kernel
theorem dX10_work_145 : decode cX10_work 145 = .ok (.if_icmp .ne 72, 3) := by decide +kernel
theorem dX10_work_148 : decode cX10_work 148 = .ok (.aload_n 0, 1) := by decide +kernel
theorem dX10_work_149 : decode cX10_work 149 = .ok (.getfield 63, 3) := by decide +kernel
theorem dX10_work_152 : decode cX10_work 152 = .ok (.iload_n 1, 1) := by decide +kernel
theorem dX10_work_153 : decode cX10_work 153 = .ok (.aload_n 0, 1) := by decide +kernel
theorem dX10_work_154 : decode cX10_work 154 = .ok (.getfield 63, 3) := by decide +kernel
theorem dX10_work_157 : decode cX10_work 157 = .ok (.aload_n 0, 1) := by decide +kernel
theorem dX10_work_158 : decode cX10_work 158 = .ok (.getfield 25, 3) := by decide +kernel
theorem dX10_work_161 : decode cX10_work 161 = .ok (.iload_n 1, 1) := by decide +kernel
theorem dX10_work_162 : decode cX10_work 162 = .ok (.iaload, 1) := by decide +kernel
theorem dX10_work_163 : decode cX10_work 163 = .ok (.iaload, 1) := by decide +kernel
theorem dX10_work_164 : decode cX10_work 164 = .ok (.ldc 90, 2) := by decide +kernel
theorem dX10_work_166 : decode cX10_work 166 = .ok (.if_icmp .ne 8, 3) := by decide +kernel
theorem dX10_work_169 : decode cX10_work 169 = .ok (.ldc 90, 2) := by decide +kernel
theorem dX10_work_171 : decode cX10_work 171 = .ok (.goto 42, 3) := by decide +kernel
theorem dX10_work_174 : decode cX10_work 174 = .ok (.aload_n 0, 1) := by decide +kernel
theorem dX10_work_175 : decode cX10_work 175 = .ok (.getfield 63, 3) := by decide +kernel
theorem dX10_work_178 : decode cX10_work 178 = .ok (.aload_n 0, 1) := by decide +kernel
theorem dX10_work_179 : decode cX10_work 179 = .ok (.getfield 25, 3) := by decide +kernel
theorem dX10_work_182 : decode cX10_work 182 = .ok (.iload_n 1, 1) := by decide +kernel
theorem dX10_work_183 : decode cX10_work 183 = .ok (.iaload, 1) := by decide +kernel
theorem dX10_work_184 : decode cX10_work 184 = .ok (.iaload, 1) := by decide +kernel
theorem dX10_work_185 : decode cX10_work 185 = .ok (.ifCond .eq 17, 3) := by decide +kernel
theorem dX10_work_188 : decode cX10_work 188 = .ok (.aload_n 0, 1) := by decide +kernel
theorem dX10_work_189 : decode cX10_work 189 = .ok (.getfield 63, 3) := by decide +kernel
theorem dX10_work_192 : decode cX10_work 192 = .ok (.aload_n 0, 1) := by decide +kernel
theorem dX10_work_193 : decode cX10_work 193 = .ok (.getfield 28, 3) := by decide +kernel
theorem dX10_work_196 : decode cX10_work 196 = .ok (.iload_n 1, 1) := by decide +kernel
theorem dX10_work_197 : decode cX10_work 197 = .ok (.iaload, 1) := by decide +kernel
theorem dX10_work_198 : decode cX10_work 198 = .ok (.iaload, 1) := by decide +kernel
theorem dX10_work_199 : decode cX10_work 199 = .ok (.goto 14, 3) := by decide +kernel
theorem dX10_work_202 : decode cX10_work 202 = .ok (.aload_n 0, 1) := by decide +kernel
theorem dX10_work_203 : decode cX10_work 203 = .ok (.getfield 63, 3) := by decide +kernel
theorem dX10_work_206 : decode cX10_work 206 = .ok (.aload_n 0, 1) := by decide +kernel
theorem dX10_work_207 : decode cX10_work 207 = .ok (.getfield 31, 3) := by decide +kernel
theorem dX10_work_210 : decode cX10_work 210 = .ok (.iload_n 1, 1) := by decide +kernel
theorem dX10_work_211 : decode cX10_work 211 = .ok (.iaload, 1) := by decide +kernel
theorem dX10_work_212 : decode cX10_work 212 = .ok (.iaload, 1) := by decide +kernel
theorem dX10_work_213 : decode cX10_work 213 = .ok (.iastore, 1) := by decide +kernel
theorem dX10_work_214 : decode cX10_work 214 = .ok (.goto 35, 3) := by decide +kernel
theorem dX10_work_217 : decode cX10_work 217 = .ok (.aload_n 0, 1) := by decide +kernel
theorem dX10_work_218 : decode cX10_work 218 = .ok (.getfield 63, 3) := by decide +kernel
theorem dX10_work_221 : decode cX10_work 221 = .ok (.iload_n 1, 1) := by decide +kernel
theorem dX10_work_222 : decode cX10_work 222 = .ok (.iload_n 2, 1) := by decide +kernel
theorem dX10_work_223 : decode cX10_work 223 = .ok (.aload_n 0, 1) := by decide +kernel
theorem dX10_work_224 : decode cX10_work 224 = .ok (.getfield 63, 3) := by decide +kernel
theorem dX10_work_227 : decode cX10_work 227 = .ok (.aload_n 0, 1) := by decide +kernel
theorem dX10_work_228 : decode cX10_work 228 = .ok (.getfield 25, 3) := by decide +kernel
theorem dX10_work_231 : decode cX10_work 231 = .ok (.iload_n 1, 1) := by decide +kernel
theorem dX10_work_232 : decode cX10_work 232 = .ok (.iaload, 1) := by decide +kernel
theorem dX10_work_233 : decode cX10_work 233 = .ok (.iaload, 1) := by decide +kernel
theorem dX10_work_234 : decode cX10_work 234 = .ok (.aload_n 0, 1) := by decide +kernel
theorem dX10_work_235 : decode cX10_work 235 = .ok (.getfield 63, 3) := by decide +kernel
theorem dX10_work_238 : decode cX10_work 238 = .ok (.aload_n 0, 1) := by decide +kernel
theorem dX10_work_239 : decode cX10_work 239 = .ok (.getfield 28, 3) := by decide +kernel
theorem dX10_work_242 : decode cX10_work 242 = .ok (.iload_n 1, 1) := by decide +kernel
theorem dX10_work_243 : decode cX10_work 243 = .ok (.iaload, 1) := by decide +kernel
theorem dX10_work_244 : decode cX10_work 244 = .ok (.iaload, 1) := by decide +kernel
theorem dX10_work_245 : decode cX10_work 245 = .ok (.invokestatic 162, 3) := by decide +kernel
theorem dX10_work_248 : decode cX10_work 248 = .ok (.iastore, 1) := by decide +kernel
theorem dX10_work_249 : decode cX10_work 249 = .ok (.return_, 1) := by decide +kernel
theorem dX10_workAll_0 : decode cX10_workAll 0 = .ok (.iconst 0, 1) := by decide +kernel
theorem dX10_workAll_1 : decode cX10_workAll 1 = .ok (.istore_n 3, 1) := by decide +kernel
theorem dX10_workAll_2 : decode cX10_workAll 2 = .ok (.iload_n 3, 1) := by decide +kernel
theorem dX10_workAll_3 : decode cX10_workAll 3 = .ok (.aload_n 0, 1) := by decide +kernel
theorem dX10_workAll_4 : decode cX10_workAll 4 = .ok (.getfield 103, 3) := by decide +kernel
theorem dX10_workAll_7 : decode cX10_workAll 7 = .ok (.if_icmp .ge 24, 3) := by decide +kernel
theorem dX10_workAll_10 : decode cX10_workAll 10 = .ok (.lload_n 1, 1) := by decide +kernel
theorem dX10_workAll_11 : decode cX10_workAll 11 = .ok (.iload_n 3, 1) := by decide +kernel
theorem dX10_workAll_12 : decode cX10_workAll 12 = .ok (.lshr, 1) := by decide +kernel
theorem dX10_workAll_13 : decode cX10_workAll 13 = .ok (.lconst 1, 1) := by decide +kernel
theorem dX10_workAll_14 : decode cX10_workAll 14 = .ok (.land, 1) := by decide +kernel
theorem dX10_workAll_15 : decode cX10_workAll 15 = .ok (.lconst 1, 1) := by decide +kernel
theorem dX10_workAll_16 : decode cX10_workAll 16 = .ok (.lcmp, 1) := by decide +kernel
theorem dX10_workAll_17 : decode cX10_workAll 17 = .ok (.ifCond .ne 8, 3) := by decide +kernel
theorem dX10_workAll_20 : decode cX10_workAll 20 = .ok (.aload_n 0, 1) := by decide +kernel
theorem dX10_workAll_21 : decode cX10_workAll 21 = .ok (.iload_n 3, 1) := by decide +kernel
theorem dX10_workAll_22 : decode cX10_workAll 22 = .ok (.invokevirtual 166, 3) := by decide +kernel
theorem dX10_workAll_25 : decode cX10_workAll 25 = .ok (.iinc 3 1, 3) := by decide +kernel
theorem dX10_workAll_28 : decode cX10_workAll 28 = .ok (.goto (-26), 3) := by decide +kernel
theorem dX10_workAll_31 : decode cX10_workAll 31 = .ok (.return_, 1) := by decide +kernel
theorem dX10_isSo_0 : decode cX10_isSo 0 = .ok (.aload_n 0, 1) := by decide +kernel
theorem dX10_isSo_1 : decode cX10_isSo 1 = .ok (.getfield 63, 3) := by decide +kernel
theorem dX10_isSo_4 : decode cX10_isSo 4 = .ok (.iload_n 1, 1) := by decide +kernel
theorem dX10_isSo_5 : decode cX10_isSo 5 = .ok (.iaload, 1) := by decide +kernel
theorem dX10_isSo_6 : decode cX10_isSo 6 = .ok (.ldc 90, 2) := by decide +kernel
theorem dX10_isSo_8 : decode cX10_isSo 8 = .ok (.if_icmp .eq 16, 3) := by decide +kernel
theorem dX10_isSo_11 : decode cX10_isSo 11 = .ok (.aload_n 0, 1) := by decide +kernel
theorem dX10_isSo_12 : decode cX10_isSo 12 = .ok (.getfield 63, 3) := by decide +kernel
theorem dX10_isSo_15 : decode cX10_isSo 15 = .ok (.iload_n 1, 1) := by decide +kernel
theorem dX10_isSo_16 : decode cX10_isSo 16 = .ok (.iaload, 1) := by decide +kernel
theorem dX10_isSo_17 : decode cX10_isSo 17 = .ok (.ifCond .eq 7, 3) := by decide +kernel
theorem dX10_isSo_20 : decode cX10_isSo 20 = .ok (.iconst 1, 1) := by decide +kernel
theorem dX10_isSo_21 : decode cX10_isSo 21 = .ok (.goto 4, 3) := by decide +kernel
theorem dX10_isSo_24 : decode cX10_isSo 24 = .ok (.iconst 0, 1) := by decide +kernel
theorem dX10_isSo_25 : decode cX10_isSo 25 = .ok (.ireturn, 1) := by decide +kernel
theorem dX10_judge_0 : decode cX10_judge 0 = .ok (.aload_n 0, 1) := by decide +kernel
theorem dX10_judge_1 : decode cX10_judge 1 = .ok (.aload_n 0, 1) := by decide +kernel
theorem dX10_judge_2 : decode cX10_judge 2 = .ok (.getfield 40, 3) := by decide +kernel
theorem dX10_judge_5 : decode cX10_judge 5 = .ok (.iload_n 1, 1) := by decide +kernel
theorem dX10_judge_6 : decode cX10_judge 6 = .ok (.laload, 1) := by decide +kernel
theorem dX10_judge_7 : decode cX10_judge 7 = .ok (.invokevirtual 169, 3) := by decide +kernel
theorem dX10_judge_10 : decode cX10_judge 10 = .ok (.aload_n 0, 1) := by decide +kernel
theorem dX10_judge_11 : decode cX10_judge 11 = .ok (.getfield 19, 3) := by decide +kernel
theorem dX10_judge_14 : decode cX10_judge 14 = .ok (.iconst 4, 1) := by decide +kernel
theorem dX10_judge_15 : decode cX10_judge 15 = .ok (.iload_n 1, 1) := by decide +kernel
theorem dX10_judge_16 : decode cX10_judge 16 = .ok (.imul, 1) := by decide +kernel
theorem dX10_judge_17 : decode cX10_judge 17 = .ok (.iconst 0, 1) := by decide +kernel
theorem dX10_judge_18 : decode cX10_judge 18 = .ok (.iadd, 1) := by decide +kernel
theorem dX10_judge_19 : decode cX10_judge 19 = .ok (.iaload, 1) := by decide +kernel
theorem dX10_judge_20 : decode cX10_judge 20 = .ok (.istore_n 2, 1) := by decide +kernel
theorem dX10_judge_21 : decode cX10_judge 21 = .ok (.aload_n 0, 1) := by decide +kernel
theorem dX10_judge_22 : decode cX10_judge 22 = .ok (.getfield 19, 3) := by decide +kernel
theorem dX10_judge_25 : decode cX10_judge 25 = .ok (.iconst 4, 1) := by decide +kernel
theorem dX10_judge_26 : decode cX10_judge 26 = .ok (.iload_n 1, 1) := by decide +kernel
theorem dX10_judge_27 : decode cX10_judge 27 = .ok (.imul, 1) := by decide +kernel
theorem dX10_judge_28 : decode cX10_judge 28 = .ok (.iconst 3, 1) := by decide +kernel
theorem dX10_judge_29 : decode cX10_judge 29 = .ok (.iadd, 1) := by decide +kernel
theorem dX10_judge_30 : decode cX10_judge 30 = .ok (.iaload, 1) := by decide +kernel
theorem dX10_judge_31 : decode cX10_judge 31 = .ok (.istore_n 3, 1) := by decide +kernel
theorem dX10_judge_32 : decode cX10_judge 32 = .ok (.aload_n 0, 1) := by decide +kernel
theorem dX10_judge_33 : decode cX10_judge 33 = .ok (.getfield 53, 3) := by decide +kernel
theorem dX10_judge_36 : decode cX10_judge 36 = .ok (.iload_n 1, 1) := by decide +kernel
theorem dX10_judge_37 : decode cX10_judge 37 = .ok (.iload_n 2, 1) := by decide +kernel
theorem dX10_judge_38 : decode cX10_judge 38 = .ok (.ifCond .lt 11, 3) := by decide +kernel
theorem dX10_judge_41 : decode cX10_judge 41 = .ok (.aload_n 0, 1) := by decide +kernel
theorem dX10_judge_42 : decode cX10_judge 42 = .ok (.iload_n 2, 1) := by decide +kernel
theorem dX10_judge_43 : decode cX10_judge 43 = .ok (.invokevirtual 173, 3) := by decide +kernel
theorem dX10_judge_46 : decode cX10_judge 46 = .ok (.ifCond .eq 7, 3) := by decide +kernel
theorem dX10_judge_49 : decode cX10_judge 49 = .ok (.iconst 1, 1) := by decide +kernel
theorem dX10_judge_50 : decode cX10_judge 50 = .ok (.goto 4, 3) := by decide +kernel
theorem dX10_judge_53 : decode cX10_judge 53 = .ok (.iconst 0, 1) := by decide +kernel
theorem dX10_judge_54 : decode cX10_judge 54 = .ok (.bastore, 1) := by decide +kernel
theorem dX10_judge_55 : decode cX10_judge 55 = .ok (.aload_n 0, 1) := by decide +kernel
theorem dX10_judge_56 : decode cX10_judge 56 = .ok (.getfield 57, 3) := by decide +kernel
theorem dX10_judge_59 : decode cX10_judge 59 = .ok (.iload_n 1, 1) := by decide +kernel
theorem dX10_judge_60 : decode cX10_judge 60 = .ok (.aload_n 0, 1) := by decide +kernel
theorem dX10_judge_61 : decode cX10_judge 61 = .ok (.getfield 16, 3) := by decide +kernel
theorem dX10_judge_64 : decode cX10_judge 64 = .ok (.iload_n 1, 1) := by decide +kernel
theorem dX10_judge_65 : decode cX10_judge 65 = .ok (.iaload, 1) := by decide +kernel
theorem dX10_judge_66 : decode cX10_judge 66 = .ok (.ifCond .ne 12, 3) := by decide +kernel
theorem dX10_judge_69 : decode cX10_judge 69 = .ok (.aload_n 0, 1) := by decide +kernel
theorem dX10_judge_70 : decode cX10_judge 70 = .ok (.getfield 50, 3) := by decide +kernel
theorem dX10_judge_73 : decode cX10_judge 73 = .ok (.iload_n 1, 1) := by decide +kernel
theorem dX10_judge_74 : decode cX10_judge 74 = .ok (.iaload, 1) := by decide +kernel
theorem dX10_judge_75 : decode cX10_judge 75 = .ok (.goto 53, 3) := by decide +kernel
theorem dX10_judge_78 : decode cX10_judge 78 = .ok (.iload_n 3, 1) := by decide +kernel
theorem dX10_judge_79 : decode cX10_judge 79 = .ok (.ifCond .lt 38, 3) := by decide +kernel
theorem dX10_judge_82 : decode cX10_judge 82 = .ok (.aload_n 0, 1) := by decide +kernel
theorem dX10_judge_83 : decode cX10_judge 83 = .ok (.getfield 63, 3) := by decide +kernel
theorem dX10_judge_86 : decode cX10_judge 86 = .ok (.iload_n 3, 1) := by decide +kernel
theorem dX10_judge_87 : decode cX10_judge 87 = .ok (.iaload, 1) := by decide +kernel
theorem dX10_judge_88 : decode cX10_judge 88 = .ok (.ldc 90, 2) := by decide +kernel
theorem dX10_judge_90 : decode cX10_judge 90 = .ok (.if_icmp .eq 27, 3) := by decide +kernel
theorem dX10_judge_93 : decode cX10_judge 93 = .ok (.aload_n 0, 1) := by decide +kernel
theorem dX10_judge_94 : decode cX10_judge 94 = .ok (.getfield 63, 3) := by decide +kernel
theorem dX10_judge_97 : decode cX10_judge 97 = .ok (.iload_n 3, 1) := by decide +kernel
theorem dX10_judge_98 : decode cX10_judge 98 = .ok (.iaload, 1) := by decide +kernel
theorem dX10_judge_99 : decode cX10_judge 99 = .ok (.aload_n 0, 1) := by decide +kernel
theorem dX10_judge_100 : decode cX10_judge 100 = .ok (.getfield 7, 3) := by decide +kernel
theorem dX10_judge_103 : decode cX10_judge 103 = .ok (.iload_n 1, 1) := by decide +kernel
theorem dX10_judge_104 : decode cX10_judge 104 = .ok (.iaload, 1) := by decide +kernel
theorem dX10_judge_105 : decode cX10_judge 105 = .ok (.aload_n 0, 1) := by decide +kernel
theorem dX10_judge_106 : decode cX10_judge 106 = .ok (.getfield 13, 3) := by decide +kernel
theorem dX10_judge_109 : decode cX10_judge 109 = .ok (.iload_n 1, 1) := by decide +kernel
theorem dX10_judge_110 : decode cX10_judge 110 = .ok (.iaload, 1) := by decide +kernel
theorem dX10_judge_111 : decode cX10_judge 111 = .ok (.invokestatic 99, 3) := by decide +kernel
theorem dX10_judge_114 : decode cX10_judge 114 = .ok (.ifCond .ne 8, 3) := by decide +kernel
theorem dX10_judge_117 : decode cX10_judge 117 = .ok (.ldc 90, 2) := by decide +kernel
theorem dX10_judge_119 : decode cX10_judge 119 = .ok (.goto 9, 3) := by decide +kernel
theorem dX10_judge_122 : decode cX10_judge 122 = .ok (.aload_n 0, 1) := by decide +kernel
end
section
theorem dX10_judge_123 : decode cX10_judge 123 = .ok (.getfield 63, 3) := by decide +kernel
theorem dX10_judge_126 : decode cX10_judge 126 = .ok (.iload_n 3, 1) := by decide +kernel
theorem dX10_judge_127 : decode cX10_judge 127 = .ok (.iaload, 1) := by decide +kernel
theorem dX10_judge_128 : decode cX10_judge 128 = .ok (.iastore, 1) := by decide +kernel
theorem dX10_judge_129 : decode cX10_judge 129 = .ok (.aload_n 0, 1) := by decide +kernel
theorem dX10_judge_130 : decode cX10_judge 130 = .ok (.getfield 60, 3) := by decide +kernel
theorem dX10_judge_133 : decode cX10_judge 133 = .ok (.iload_n 1, 1) := by decide +kernel
theorem dX10_judge_134 : decode cX10_judge 134 = .ok (.aload_n 0, 1) := by decide +kernel
theorem dX10_judge_135 : decode cX10_judge 135 = .ok (.getfield 53, 3) := by decide +kernel
theorem dX10_judge_138 : decode cX10_judge 138 = .ok (.iload_n 1, 1) := by decide +kernel
theorem dX10_judge_139 : decode cX10_judge 139 = .ok (.baload, 1) := by decide +kernel
theorem dX10_judge_140 : decode cX10_judge 140 = .ok (.ifCond .eq 12, 3) := by decide +kernel
theorem dX10_judge_143 : decode cX10_judge 143 = .ok (.aload_n 0, 1) := by decide +kernel
theorem dX10_judge_144 : decode cX10_judge 144 = .ok (.getfield 57, 3) := by decide +kernel
theorem dX10_judge_147 : decode cX10_judge 147 = .ok (.iload_n 1, 1) := by decide +kernel
theorem dX10_judge_148 : decode cX10_judge 148 = .ok (.iaload, 1) := by decide +kernel
theorem dX10_judge_149 : decode cX10_judge 149 = .ok (.goto 5, 3) := by decide +kernel
theorem dX10_judge_152 : decode cX10_judge 152 = .ok (.ldc 90, 2) := by decide +kernel
theorem dX10_judge_154 : decode cX10_judge 154 = .ok (.iastore, 1) := by decide +kernel
theorem dX10_judge_155 : decode cX10_judge 155 = .ok (.return_, 1) := by decide +kernel
theorem dX10_layDraft_0 : decode cX10_layDraft 0 = .ok (.aload_n 0, 1) := by decide +kernel
theorem dX10_layDraft_1 : decode cX10_layDraft 1 = .ok (.invokevirtual 149, 3) := by decide +kernel
theorem dX10_layDraft_4 : decode cX10_layDraft 4 = .ok (.iconst 0, 1) := by decide +kernel
theorem dX10_layDraft_5 : decode cX10_layDraft 5 = .ok (.istore_n 2, 1) := by decide +kernel
theorem dX10_layDraft_6 : decode cX10_layDraft 6 = .ok (.iload_n 2, 1) := by decide +kernel
theorem dX10_layDraft_7 : decode cX10_layDraft 7 = .ok (.aload_n 0, 1) := by decide +kernel
theorem dX10_layDraft_8 : decode cX10_layDraft 8 = .ok (.getfield 95, 3) := by decide +kernel
theorem dX10_layDraft_11 : decode cX10_layDraft 11 = .ok (.if_icmp .ge 34, 3) := by decide +kernel
theorem dX10_layDraft_14 : decode cX10_layDraft 14 = .ok (.aload_n 0, 1) := by decide +kernel
theorem dX10_layDraft_15 : decode cX10_layDraft 15 = .ok (.getfield 50, 3) := by decide +kernel
theorem dX10_layDraft_18 : decode cX10_layDraft 18 = .ok (.iload_n 2, 1) := by decide +kernel
theorem dX10_layDraft_19 : decode cX10_layDraft 19 = .ok (.aload_n 0, 1) := by decide +kernel
theorem dX10_layDraft_20 : decode cX10_layDraft 20 = .ok (.getfield 66, 3) := by decide +kernel
theorem dX10_layDraft_23 : decode cX10_layDraft 23 = .ok (.bipush 12, 2) := by decide +kernel
theorem dX10_layDraft_25 : decode cX10_layDraft 25 = .ok (.iload_n 1, 1) := by decide +kernel
theorem dX10_layDraft_26 : decode cX10_layDraft 26 = .ok (.imul, 1) := by decide +kernel
theorem dX10_layDraft_27 : decode cX10_layDraft 27 = .ok (.iload_n 2, 1) := by decide +kernel
theorem dX10_layDraft_28 : decode cX10_layDraft 28 = .ok (.iadd, 1) := by decide +kernel
theorem dX10_layDraft_29 : decode cX10_layDraft 29 = .ok (.iaload, 1) := by decide +kernel
theorem dX10_layDraft_30 : decode cX10_layDraft 30 = .ok (.iastore, 1) := by decide +kernel
theorem dX10_layDraft_31 : decode cX10_layDraft 31 = .ok (.aload_n 0, 1) := by decide +kernel
theorem dX10_layDraft_32 : decode cX10_layDraft 32 = .ok (.getfield 60, 3) := by decide +kernel
theorem dX10_layDraft_35 : decode cX10_layDraft 35 = .ok (.iload_n 2, 1) := by decide +kernel
theorem dX10_layDraft_36 : decode cX10_layDraft 36 = .ok (.ldc 90, 2) := by decide +kernel
theorem dX10_layDraft_38 : decode cX10_layDraft 38 = .ok (.iastore, 1) := by decide +kernel
theorem dX10_layDraft_39 : decode cX10_layDraft 39 = .ok (.iinc 2 1, 3) := by decide +kernel
theorem dX10_layDraft_42 : decode cX10_layDraft 42 = .ok (.goto (-36), 3) := by decide +kernel
theorem dX10_layDraft_45 : decode cX10_layDraft 45 = .ok (.iconst 0, 1) := by decide +kernel
theorem dX10_layDraft_46 : decode cX10_layDraft 46 = .ok (.istore_n 2, 1) := by decide +kernel
theorem dX10_layDraft_47 : decode cX10_layDraft 47 = .ok (.iload_n 2, 1) := by decide +kernel
theorem dX10_layDraft_48 : decode cX10_layDraft 48 = .ok (.aload_n 0, 1) := by decide +kernel
theorem dX10_layDraft_49 : decode cX10_layDraft 49 = .ok (.getfield 95, 3) := by decide +kernel
theorem dX10_layDraft_52 : decode cX10_layDraft 52 = .ok (.if_icmp .ge 19, 3) := by decide +kernel
theorem dX10_layDraft_55 : decode cX10_layDraft 55 = .ok (.aload_n 0, 1) := by decide +kernel
theorem dX10_layDraft_56 : decode cX10_layDraft 56 = .ok (.aload_n 0, 1) := by decide +kernel
theorem dX10_layDraft_57 : decode cX10_layDraft 57 = .ok (.getfield 44, 3) := by decide +kernel
theorem dX10_layDraft_60 : decode cX10_layDraft 60 = .ok (.iload_n 2, 1) := by decide +kernel
theorem dX10_layDraft_61 : decode cX10_layDraft 61 = .ok (.iaload, 1) := by decide +kernel
theorem dX10_layDraft_62 : decode cX10_layDraft 62 = .ok (.invokevirtual 176, 3) := by decide +kernel
theorem dX10_layDraft_65 : decode cX10_layDraft 65 = .ok (.iinc 2 1, 3) := by decide +kernel
theorem dX10_layDraft_68 : decode cX10_layDraft 68 = .ok (.goto (-21), 3) := by decide +kernel
theorem dX10_layDraft_71 : decode cX10_layDraft 71 = .ok (.aload_n 0, 1) := by decide +kernel
theorem dX10_layDraft_72 : decode cX10_layDraft 72 = .ok (.ldc2_w 179, 3) := by decide +kernel
theorem dX10_layDraft_75 : decode cX10_layDraft 75 = .ok (.invokevirtual 169, 3) := by decide +kernel
theorem dX10_layDraft_78 : decode cX10_layDraft 78 = .ok (.return_, 1) := by decide +kernel
theorem dX10_noDraft_0 : decode cX10_noDraft 0 = .ok (.iload_n 0, 1) := by decide +kernel
theorem dX10_noDraft_1 : decode cX10_noDraft 1 = .ok (.iconst 0, 1) := by decide +kernel
theorem dX10_noDraft_2 : decode cX10_noDraft 2 = .ok (.iconst 3, 1) := by decide +kernel
theorem dX10_noDraft_3 : decode cX10_noDraft 3 = .ok (.invokestatic 99, 3) := by decide +kernel
theorem dX10_noDraft_6 : decode cX10_noDraft 6 = .ok (.ifCond .ne 7, 3) := by decide +kernel
theorem dX10_noDraft_9 : decode cX10_noDraft 9 = .ok (.iconst 1, 1) := by decide +kernel
theorem dX10_noDraft_10 : decode cX10_noDraft 10 = .ok (.goto 4, 3) := by decide +kernel
theorem dX10_noDraft_13 : decode cX10_noDraft 13 = .ok (.iconst 0, 1) := by decide +kernel
theorem dX10_noDraft_14 : decode cX10_noDraft 14 = .ok (.ireturn, 1) := by decide +kernel
theorem dX10_isLocked_0 : decode cX10_isLocked 0 = .ok (.iconst 0, 1) := by decide +kernel
theorem dX10_isLocked_1 : decode cX10_isLocked 1 = .ok (.istore_n 3, 1) := by decide +kernel
theorem dX10_isLocked_2 : decode cX10_isLocked 2 = .ok (.iconst 0, 1) := by decide +kernel
theorem dX10_isLocked_3 : decode cX10_isLocked 3 = .ok (.istore 4, 2) := by decide +kernel
theorem dX10_isLocked_5 : decode cX10_isLocked 5 = .ok (.iload 4, 2) := by decide +kernel
theorem dX10_isLocked_7 : decode cX10_isLocked 7 = .ok (.aload_n 0, 1) := by decide +kernel
theorem dX10_isLocked_8 : decode cX10_isLocked 8 = .ok (.getfield 181, 3) := by decide +kernel
theorem dX10_isLocked_11 : decode cX10_isLocked 11 = .ok (.if_icmp .ge 55, 3) := by decide +kernel
theorem dX10_isLocked_14 : decode cX10_isLocked 14 = .ok (.iload_n 3, 1) := by decide +kernel
theorem dX10_isLocked_15 : decode cX10_isLocked 15 = .ok (.ifCond .ne 39, 3) := by decide +kernel
theorem dX10_isLocked_18 : decode cX10_isLocked 18 = .ok (.aload_n 0, 1) := by decide +kernel
theorem dX10_isLocked_19 : decode cX10_isLocked 19 = .ok (.getfield 72, 3) := by decide +kernel
theorem dX10_isLocked_22 : decode cX10_isLocked 22 = .ok (.iload 4, 2) := by decide +kernel
theorem dX10_isLocked_24 : decode cX10_isLocked 24 = .ok (.iaload, 1) := by decide +kernel
theorem dX10_isLocked_25 : decode cX10_isLocked 25 = .ok (.iload_n 1, 1) := by decide +kernel
theorem dX10_isLocked_26 : decode cX10_isLocked 26 = .ok (.if_icmp .ne 32, 3) := by decide +kernel
theorem dX10_isLocked_29 : decode cX10_isLocked 29 = .ok (.aload_n 0, 1) := by decide +kernel
theorem dX10_isLocked_30 : decode cX10_isLocked 30 = .ok (.getfield 78, 3) := by decide +kernel
theorem dX10_isLocked_33 : decode cX10_isLocked 33 = .ok (.iload 4, 2) := by decide +kernel
theorem dX10_isLocked_35 : decode cX10_isLocked 35 = .ok (.baload, 1) := by decide +kernel
theorem dX10_isLocked_36 : decode cX10_isLocked 36 = .ok (.ifCond .ne 22, 3) := by decide +kernel
theorem dX10_isLocked_39 : decode cX10_isLocked 39 = .ok (.aload_n 0, 1) := by decide +kernel
theorem dX10_isLocked_40 : decode cX10_isLocked 40 = .ok (.getfield 75, 3) := by decide +kernel
theorem dX10_isLocked_43 : decode cX10_isLocked 43 = .ok (.iload 4, 2) := by decide +kernel
theorem dX10_isLocked_45 : decode cX10_isLocked 45 = .ok (.iaload, 1) := by decide +kernel
theorem dX10_isLocked_46 : decode cX10_isLocked 46 = .ok (.iload_n 2, 1) := by decide +kernel
theorem dX10_isLocked_47 : decode cX10_isLocked 47 = .ok (.ishr, 1) := by decide +kernel
theorem dX10_isLocked_48 : decode cX10_isLocked 48 = .ok (.iconst 1, 1) := by decide +kernel
theorem dX10_isLocked_49 : decode cX10_isLocked 49 = .ok (.iand, 1) := by decide +kernel
theorem dX10_isLocked_50 : decode cX10_isLocked 50 = .ok (.iconst 1, 1) := by decide +kernel
theorem dX10_isLocked_51 : decode cX10_isLocked 51 = .ok (.if_icmp .ne 7, 3) := by decide +kernel
theorem dX10_isLocked_54 : decode cX10_isLocked 54 = .ok (.iconst 1, 1) := by decide +kernel
theorem dX10_isLocked_55 : decode cX10_isLocked 55 = .ok (.goto 4, 3) := by decide +kernel
theorem dX10_isLocked_58 : decode cX10_isLocked 58 = .ok (.iconst 0, 1) := by decide +kernel
theorem dX10_isLocked_59 : decode cX10_isLocked 59 = .ok (.istore_n 3, 1) := by decide +kernel
theorem dX10_isLocked_60 : decode cX10_isLocked 60 = .ok (.iinc 4 1, 3) := by decide +kernel
theorem dX10_isLocked_63 : decode cX10_isLocked 63 = .ok (.goto (-58), 3) := by decide +kernel
theorem dX10_isLocked_66 : decode cX10_isLocked 66 = .ok (.iload_n 3, 1) := by decide +kernel
theorem dX10_isLocked_67 : decode cX10_isLocked 67 = .ok (.ifCond .eq 16, 3) := by decide +kernel
theorem dX10_isLocked_70 : decode cX10_isLocked 70 = .ok (.aload_n 0, 1) := by decide +kernel
theorem dX10_isLocked_71 : decode cX10_isLocked 71 = .ok (.getfield 16, 3) := by decide +kernel
theorem dX10_isLocked_74 : decode cX10_isLocked 74 = .ok (.iload_n 2, 1) := by decide +kernel
theorem dX10_isLocked_75 : decode cX10_isLocked 75 = .ok (.iaload, 1) := by decide +kernel
theorem dX10_isLocked_76 : decode cX10_isLocked 76 = .ok (.ifCond .ne 7, 3) := by decide +kernel
theorem dX10_isLocked_79 : decode cX10_isLocked 79 = .ok (.iconst 1, 1) := by decide +kernel
theorem dX10_isLocked_80 : decode cX10_isLocked 80 = .ok (.goto 4, 3) := by decide +kernel
theorem dX10_isLocked_83 : decode cX10_isLocked 83 = .ok (.iconst 0, 1) := by decide +kernel
theorem dX10_isLocked_84 : decode cX10_isLocked 84 = .ok (.ireturn, 1) := by decide +kernel
theorem dX10_hasLocked_0 : decode cX10_hasLocked 0 = .ok (.iconst 0, 1) := by decide +kernel
theorem dX10_hasLocked_1 : decode cX10_hasLocked 1 = .ok (.istore_n 2, 1) := by decide +kernel
theorem dX10_hasLocked_2 : decode cX10_hasLocked 2 = .ok (.iconst 0, 1) := by decide +kernel
theorem dX10_hasLocked_3 : decode cX10_hasLocked 3 = .ok (.istore_n 3, 1) := by decide +kernel
theorem dX10_hasLocked_4 : decode cX10_hasLocked 4 = .ok (.iload_n 3, 1) := by decide +kernel
theorem dX10_hasLocked_5 : decode cX10_hasLocked 5 = .ok (.aload_n 0, 1) := by decide +kernel
theorem dX10_hasLocked_6 : decode cX10_hasLocked 6 = .ok (.getfield 95, 3) := by decide +kernel
theorem dX10_hasLocked_9 : decode cX10_hasLocked 9 = .ok (.if_icmp .ge 28, 3) := by decide +kernel
theorem dX10_hasLocked_12 : decode cX10_hasLocked 12 = .ok (.iload_n 2, 1) := by decide +kernel
theorem dX10_hasLocked_13 : decode cX10_hasLocked 13 = .ok (.ifCond .ne 12, 3) := by decide +kernel
theorem dX10_hasLocked_16 : decode cX10_hasLocked 16 = .ok (.aload_n 0, 1) := by decide +kernel
theorem dX10_hasLocked_17 : decode cX10_hasLocked 17 = .ok (.iload_n 1, 1) := by decide +kernel
theorem dX10_hasLocked_18 : decode cX10_hasLocked 18 = .ok (.iload_n 3, 1) := by decide +kernel
theorem dX10_hasLocked_19 : decode cX10_hasLocked 19 = .ok (.invokevirtual 184, 3) := by decide +kernel
theorem dX10_hasLocked_22 : decode cX10_hasLocked 22 = .ok (.ifCond .eq 7, 3) := by decide +kernel
theorem dX10_hasLocked_25 : decode cX10_hasLocked 25 = .ok (.iconst 1, 1) := by decide +kernel
theorem dX10_hasLocked_26 : decode cX10_hasLocked 26 = .ok (.goto 4, 3) := by decide +kernel
theorem dX10_hasLocked_29 : decode cX10_hasLocked 29 = .ok (.iconst 0, 1) := by decide +kernel
theorem dX10_hasLocked_30 : decode cX10_hasLocked 30 = .ok (.istore_n 2, 1) := by decide +kernel
theorem dX10_hasLocked_31 : decode cX10_hasLocked 31 = .ok (.iinc 3 1, 3) := by decide +kernel
theorem dX10_hasLocked_34 : decode cX10_hasLocked 34 = .ok (.goto (-30), 3) := by decide +kernel
theorem dX10_hasLocked_37 : decode cX10_hasLocked 37 = .ok (.iload_n 2, 1) := by decide +kernel
theorem dX10_hasLocked_38 : decode cX10_hasLocked 38 = .ok (.ireturn, 1) := by decide +kernel
theorem dX10_answer_0 : decode cX10_answer 0 = .ok (.iload_n 1, 1) := by decide +kernel
theorem dX10_answer_1 : decode cX10_answer 1 = .ok (.invokestatic 188, 3) := by decide +kernel
theorem dX10_answer_4 : decode cX10_answer 4 = .ok (.ifCond .ne 11, 3) := by decide +kernel
theorem dX10_answer_7 : decode cX10_answer 7 = .ok (.aload_n 0, 1) := by decide +kernel
theorem dX10_answer_8 : decode cX10_answer 8 = .ok (.iload_n 2, 1) := by decide +kernel
theorem dX10_answer_9 : decode cX10_answer 9 = .ok (.invokevirtual 114, 3) := by decide +kernel
theorem dX10_answer_12 : decode cX10_answer 12 = .ok (.ifCond .eq 5, 3) := by decide +kernel
theorem dX10_answer_15 : decode cX10_answer 15 = .ok (.iconst (-1), 1) := by decide +kernel
theorem dX10_answer_16 : decode cX10_answer 16 = .ok (.ireturn, 1) := by decide +kernel
theorem dX10_answer_17 : decode cX10_answer 17 = .ok (.aload_n 0, 1) := by decide +kernel
theorem dX10_answer_18 : decode cX10_answer 18 = .ok (.getfield 16, 3) := by decide +kernel
theorem dX10_answer_21 : decode cX10_answer 21 = .ok (.iload_n 2, 1) := by decide +kernel
theorem dX10_answer_22 : decode cX10_answer 22 = .ok (.iaload, 1) := by decide +kernel
theorem dX10_answer_23 : decode cX10_answer 23 = .ok (.iconst 1, 1) := by decide +kernel
theorem dX10_answer_24 : decode cX10_answer 24 = .ok (.if_icmp .ne 6, 3) := by decide +kernel
theorem dX10_answer_27 : decode cX10_answer 27 = .ok (.bipush (-3), 2) := by decide +kernel
theorem dX10_answer_29 : decode cX10_answer 29 = .ok (.ireturn, 1) := by decide +kernel
theorem dX10_answer_30 : decode cX10_answer 30 = .ok (.iload_n 3, 1) := by decide +kernel
theorem dX10_answer_31 : decode cX10_answer 31 = .ok (.aload_n 0, 1) := by decide +kernel
theorem dX10_answer_32 : decode cX10_answer 32 = .ok (.getfield 7, 3) := by decide +kernel
theorem dX10_answer_35 : decode cX10_answer 35 = .ok (.iload_n 2, 1) := by decide +kernel
theorem dX10_answer_36 : decode cX10_answer 36 = .ok (.iaload, 1) := by decide +kernel
theorem dX10_answer_37 : decode cX10_answer 37 = .ok (.aload_n 0, 1) := by decide +kernel
theorem dX10_answer_38 : decode cX10_answer 38 = .ok (.getfield 13, 3) := by decide +kernel
theorem dX10_answer_41 : decode cX10_answer 41 = .ok (.iload_n 2, 1) := by decide +kernel
theorem dX10_answer_42 : decode cX10_answer 42 = .ok (.iaload, 1) := by decide +kernel
theorem dX10_answer_43 : decode cX10_answer 43 = .ok (.invokestatic 99, 3) := by decide +kernel
theorem dX10_answer_46 : decode cX10_answer 46 = .ok (.ifCond .ne 6, 3) := by decide +kernel
theorem dX10_answer_49 : decode cX10_answer 49 = .ok (.bipush (-2), 2) := by decide +kernel
theorem dX10_answer_51 : decode cX10_answer 51 = .ok (.ireturn, 1) := by decide +kernel
theorem dX10_answer_52 : decode cX10_answer 52 = .ok (.aload_n 0, 1) := by decide +kernel
theorem dX10_answer_53 : decode cX10_answer 53 = .ok (.iload_n 1, 1) := by decide +kernel
theorem dX10_answer_54 : decode cX10_answer 54 = .ok (.iload_n 2, 1) := by decide +kernel
theorem dX10_answer_55 : decode cX10_answer 55 = .ok (.invokevirtual 184, 3) := by decide +kernel
theorem dX10_answer_58 : decode cX10_answer 58 = .ok (.ifCond .eq 6, 3) := by decide +kernel
theorem dX10_answer_61 : decode cX10_answer 61 = .ok (.bipush (-3), 2) := by decide +kernel
theorem dX10_answer_63 : decode cX10_answer 63 = .ok (.ireturn, 1) := by decide +kernel
theorem dX10_answer_64 : decode cX10_answer 64 = .ok (.aload_n 0, 1) := by decide +kernel
theorem dX10_answer_65 : decode cX10_answer 65 = .ok (.getfield 66, 3) := by decide +kernel
theorem dX10_answer_68 : decode cX10_answer 68 = .ok (.bipush 12, 2) := by decide +kernel
theorem dX10_answer_70 : decode cX10_answer 70 = .ok (.iload_n 1, 1) := by decide +kernel
theorem dX10_answer_71 : decode cX10_answer 71 = .ok (.imul, 1) := by decide +kernel
theorem dX10_answer_72 : decode cX10_answer 72 = .ok (.iload_n 2, 1) := by decide +kernel
theorem dX10_answer_73 : decode cX10_answer 73 = .ok (.iadd, 1) := by decide +kernel
theorem dX10_answer_74 : decode cX10_answer 74 = .ok (.iload_n 3, 1) := by decide +kernel
theorem dX10_answer_75 : decode cX10_answer 75 = .ok (.iastore, 1) := by decide +kernel
theorem dX10_answer_76 : decode cX10_answer 76 = .ok (.aload_n 0, 1) := by decide +kernel
theorem dX10_answer_77 : decode cX10_answer 77 = .ok (.invokevirtual 149, 3) := by decide +kernel
theorem dX10_answer_80 : decode cX10_answer 80 = .ok (.aload_n 0, 1) := by decide +kernel
theorem dX10_answer_81 : decode cX10_answer 81 = .ok (.iload_n 2, 1) := by decide +kernel
theorem dX10_answer_82 : decode cX10_answer 82 = .ok (.invokevirtual 152, 3) := by decide +kernel
theorem dX10_answer_85 : decode cX10_answer 85 = .ok (.ireturn, 1) := by decide +kernel
theorem dX10_clear_0 : decode cX10_clear 0 = .ok (.iload_n 1, 1) := by decide +kernel
theorem dX10_clear_1 : decode cX10_clear 1 = .ok (.invokestatic 188, 3) := by decide +kernel
theorem dX10_clear_4 : decode cX10_clear 4 = .ok (.ifCond .ne 11, 3) := by decide +kernel
theorem dX10_clear_7 : decode cX10_clear 7 = .ok (.aload_n 0, 1) := by decide +kernel
theorem dX10_clear_8 : decode cX10_clear 8 = .ok (.iload_n 2, 1) := by decide +kernel
theorem dX10_clear_9 : decode cX10_clear 9 = .ok (.invokevirtual 114, 3) := by decide +kernel
theorem dX10_clear_12 : decode cX10_clear 12 = .ok (.ifCond .eq 5, 3) := by decide +kernel
theorem dX10_clear_15 : decode cX10_clear 15 = .ok (.iconst (-1), 1) := by decide +kernel
theorem dX10_clear_16 : decode cX10_clear 16 = .ok (.ireturn, 1) := by decide +kernel
theorem dX10_clear_17 : decode cX10_clear 17 = .ok (.aload_n 0, 1) := by decide +kernel
theorem dX10_clear_18 : decode cX10_clear 18 = .ok (.getfield 16, 3) := by decide +kernel
theorem dX10_clear_21 : decode cX10_clear 21 = .ok (.iload_n 2, 1) := by decide +kernel
theorem dX10_clear_22 : decode cX10_clear 22 = .ok (.iaload, 1) := by decide +kernel
theorem dX10_clear_23 : decode cX10_clear 23 = .ok (.iconst 1, 1) := by decide +kernel
theorem dX10_clear_24 : decode cX10_clear 24 = .ok (.if_icmp .eq 12, 3) := by decide +kernel
theorem dX10_clear_27 : decode cX10_clear 27 = .ok (.aload_n 0, 1) := by decide +kernel
theorem dX10_clear_28 : decode cX10_clear 28 = .ok (.iload_n 1, 1) := by decide +kernel
theorem dX10_clear_29 : decode cX10_clear 29 = .ok (.iload_n 2, 1) := by decide +kernel
theorem dX10_clear_30 : decode cX10_clear 30 = .ok (.invokevirtual 184, 3) := by decide +kernel
theorem dX10_clear_33 : decode cX10_clear 33 = .ok (.ifCond .eq 6, 3) := by decide +kernel
theorem dX10_clear_36 : decode cX10_clear 36 = .ok (.bipush (-3), 2) := by decide +kernel
theorem dX10_clear_38 : decode cX10_clear 38 = .ok (.ireturn, 1) := by decide +kernel
theorem dX10_clear_39 : decode cX10_clear 39 = .ok (.aload_n 0, 1) := by decide +kernel
theorem dX10_clear_40 : decode cX10_clear 40 = .ok (.getfield 66, 3) := by decide +kernel
theorem dX10_clear_43 : decode cX10_clear 43 = .ok (.bipush 12, 2) := by decide +kernel
theorem dX10_clear_45 : decode cX10_clear 45 = .ok (.iload_n 1, 1) := by decide +kernel
theorem dX10_clear_46 : decode cX10_clear 46 = .ok (.imul, 1) := by decide +kernel
theorem dX10_clear_47 : decode cX10_clear 47 = .ok (.iload_n 2, 1) := by decide +kernel
theorem dX10_clear_48 : decode cX10_clear 48 = .ok (.iadd, 1) := by decide +kernel
theorem dX10_clear_49 : decode cX10_clear 49 = .ok (.iaload, 1) := by decide +kernel
theorem dX10_clear_50 : decode cX10_clear 50 = .ok (.ldc 90, 2) := by decide +kernel
theorem dX10_clear_52 : decode cX10_clear 52 = .ok (.if_icmp .ne 7, 3) := by decide +kernel
theorem dX10_clear_55 : decode cX10_clear 55 = .ok (.iconst 0, 1) := by decide +kernel
theorem dX10_clear_56 : decode cX10_clear 56 = .ok (.goto 4, 3) := by decide +kernel
theorem dX10_clear_59 : decode cX10_clear 59 = .ok (.iconst 1, 1) := by decide +kernel
theorem dX10_clear_60 : decode cX10_clear 60 = .ok (.istore_n 3, 1) := by decide +kernel
theorem dX10_clear_61 : decode cX10_clear 61 = .ok (.aload_n 0, 1) := by decide +kernel
theorem dX10_clear_62 : decode cX10_clear 62 = .ok (.getfield 66, 3) := by decide +kernel
theorem dX10_clear_65 : decode cX10_clear 65 = .ok (.bipush 12, 2) := by decide +kernel
theorem dX10_clear_67 : decode cX10_clear 67 = .ok (.iload_n 1, 1) := by decide +kernel
theorem dX10_clear_68 : decode cX10_clear 68 = .ok (.imul, 1) := by decide +kernel
theorem dX10_clear_69 : decode cX10_clear 69 = .ok (.iload_n 2, 1) := by decide +kernel
theorem dX10_clear_70 : decode cX10_clear 70 = .ok (.iadd, 1) := by decide +kernel
theorem dX10_clear_71 : decode cX10_clear 71 = .ok (.ldc 90, 2) := by decide +kernel
theorem dX10_clear_73 : decode cX10_clear 73 = .ok (.iastore, 1) := by decide +kernel
theorem dX10_clear_74 : decode cX10_clear 74 = .ok (.iload_n 3, 1) := by decide +kernel
theorem dX10_clear_75 : decode cX10_clear 75 = .ok (.ireturn, 1) := by decide +kernel
theorem dX10_kept_0 : decode cX10_kept 0 = .ok (.iload_n 1, 1) := by decide +kernel
theorem dX10_kept_1 : decode cX10_kept 1 = .ok (.invokestatic 188, 3) := by decide +kernel
theorem dX10_kept_4 : decode cX10_kept 4 = .ok (.ifCond .ne 11, 3) := by decide +kernel
theorem dX10_kept_7 : decode cX10_kept 7 = .ok (.aload_n 0, 1) := by decide +kernel
theorem dX10_kept_8 : decode cX10_kept 8 = .ok (.iload_n 2, 1) := by decide +kernel
theorem dX10_kept_9 : decode cX10_kept 9 = .ok (.invokevirtual 114, 3) := by decide +kernel
theorem dX10_kept_12 : decode cX10_kept 12 = .ok (.ifCond .eq 6, 3) := by decide +kernel
theorem dX10_kept_15 : decode cX10_kept 15 = .ok (.ldc 90, 2) := by decide +kernel
theorem dX10_kept_17 : decode cX10_kept 17 = .ok (.ireturn, 1) := by decide +kernel
theorem dX10_kept_18 : decode cX10_kept 18 = .ok (.aload_n 0, 1) := by decide +kernel
theorem dX10_kept_19 : decode cX10_kept 19 = .ok (.iload_n 1, 1) := by decide +kernel
theorem dX10_kept_20 : decode cX10_kept 20 = .ok (.invokevirtual 191, 3) := by decide +kernel
theorem dX10_kept_23 : decode cX10_kept 23 = .ok (.aload_n 0, 1) := by decide +kernel
theorem dX10_kept_24 : decode cX10_kept 24 = .ok (.getfield 19, 3) := by decide +kernel
theorem dX10_kept_27 : decode cX10_kept 27 = .ok (.iconst 4, 1) := by decide +kernel
theorem dX10_kept_28 : decode cX10_kept 28 = .ok (.iload_n 2, 1) := by decide +kernel
theorem dX10_kept_29 : decode cX10_kept 29 = .ok (.imul, 1) := by decide +kernel
theorem dX10_kept_30 : decode cX10_kept 30 = .ok (.iconst 3, 1) := by decide +kernel
theorem dX10_kept_31 : decode cX10_kept 31 = .ok (.iadd, 1) := by decide +kernel
theorem dX10_kept_32 : decode cX10_kept 32 = .ok (.iaload, 1) := by decide +kernel
theorem dX10_kept_33 : decode cX10_kept 33 = .ok (.istore_n 3, 1) := by decide +kernel
theorem dX10_kept_34 : decode cX10_kept 34 = .ok (.aload_n 0, 1) := by decide +kernel
theorem dX10_kept_35 : decode cX10_kept 35 = .ok (.getfield 16, 3) := by decide +kernel
theorem dX10_kept_38 : decode cX10_kept 38 = .ok (.iload_n 2, 1) := by decide +kernel
theorem dX10_kept_39 : decode cX10_kept 39 = .ok (.iaload, 1) := by decide +kernel
theorem dX10_kept_40 : decode cX10_kept 40 = .ok (.ifCond .ne 12, 3) := by decide +kernel
theorem dX10_kept_43 : decode cX10_kept 43 = .ok (.aload_n 0, 1) := by decide +kernel
theorem dX10_kept_44 : decode cX10_kept 44 = .ok (.getfield 50, 3) := by decide +kernel
theorem dX10_kept_47 : decode cX10_kept 47 = .ok (.iload_n 2, 1) := by decide +kernel
theorem dX10_kept_48 : decode cX10_kept 48 = .ok (.iaload, 1) := by decide +kernel
theorem dX10_kept_49 : decode cX10_kept 49 = .ok (.goto 18, 3) := by decide +kernel
theorem dX10_kept_52 : decode cX10_kept 52 = .ok (.iload_n 3, 1) := by decide +kernel
theorem dX10_kept_53 : decode cX10_kept 53 = .ok (.ifCond .ge 8, 3) := by decide +kernel
theorem dX10_kept_56 : decode cX10_kept 56 = .ok (.ldc 90, 2) := by decide +kernel
theorem dX10_kept_58 : decode cX10_kept 58 = .ok (.goto 9, 3) := by decide +kernel
theorem dX10_kept_61 : decode cX10_kept 61 = .ok (.aload_n 0, 1) := by decide +kernel
theorem dX10_kept_62 : decode cX10_kept 62 = .ok (.getfield 63, 3) := by decide +kernel
theorem dX10_kept_65 : decode cX10_kept 65 = .ok (.iload_n 3, 1) := by decide +kernel
theorem dX10_kept_66 : decode cX10_kept 66 = .ok (.iaload, 1) := by decide +kernel
theorem dX10_kept_67 : decode cX10_kept 67 = .ok (.ireturn, 1) := by decide +kernel
theorem dX10_counts_0 : decode cX10_counts 0 = .ok (.iload_n 1, 1) := by decide +kernel
theorem dX10_counts_1 : decode cX10_counts 1 = .ok (.invokestatic 188, 3) := by decide +kernel
theorem dX10_counts_4 : decode cX10_counts 4 = .ok (.ifCond .ne 11, 3) := by decide +kernel
theorem dX10_counts_7 : decode cX10_counts 7 = .ok (.aload_n 0, 1) := by decide +kernel
theorem dX10_counts_8 : decode cX10_counts 8 = .ok (.iload_n 2, 1) := by decide +kernel
theorem dX10_counts_9 : decode cX10_counts 9 = .ok (.invokevirtual 114, 3) := by decide +kernel
theorem dX10_counts_12 : decode cX10_counts 12 = .ok (.ifCond .eq 6, 3) := by decide +kernel
theorem dX10_counts_15 : decode cX10_counts 15 = .ok (.ldc 90, 2) := by decide +kernel
theorem dX10_counts_17 : decode cX10_counts 17 = .ok (.ireturn, 1) := by decide +kernel
theorem dX10_counts_18 : decode cX10_counts 18 = .ok (.aload_n 0, 1) := by decide +kernel
theorem dX10_counts_19 : decode cX10_counts 19 = .ok (.iload_n 1, 1) := by decide +kernel
theorem dX10_counts_20 : decode cX10_counts 20 = .ok (.invokevirtual 191, 3) := by decide +kernel
theorem dX10_counts_23 : decode cX10_counts 23 = .ok (.aload_n 0, 1) := by decide +kernel
theorem dX10_counts_24 : decode cX10_counts 24 = .ok (.getfield 60, 3) := by decide +kernel
theorem dX10_counts_27 : decode cX10_counts 27 = .ok (.iload_n 2, 1) := by decide +kernel
theorem dX10_counts_28 : decode cX10_counts 28 = .ok (.iaload, 1) := by decide +kernel
theorem dX10_counts_29 : decode cX10_counts 29 = .ok (.ireturn, 1) := by decide +kernel
theorem dX10_statusOf_0 : decode cX10_statusOf 0 = .ok (.aload_n 0, 1) := by decide +kernel
theorem dX10_statusOf_1 : decode cX10_statusOf 1 = .ok (.getfield 53, 3) := by decide +kernel
theorem dX10_statusOf_4 : decode cX10_statusOf 4 = .ok (.iload_n 1, 1) := by decide +kernel
theorem dX10_statusOf_5 : decode cX10_statusOf 5 = .ok (.baload, 1) := by decide +kernel
theorem dX10_statusOf_6 : decode cX10_statusOf 6 = .ok (.ifCond .ne 5, 3) := by decide +kernel
theorem dX10_statusOf_9 : decode cX10_statusOf 9 = .ok (.iconst 0, 1) := by decide +kernel
theorem dX10_statusOf_10 : decode cX10_statusOf 10 = .ok (.ireturn, 1) := by decide +kernel
theorem dX10_statusOf_11 : decode cX10_statusOf 11 = .ok (.aload_n 0, 1) := by decide +kernel
theorem dX10_statusOf_12 : decode cX10_statusOf 12 = .ok (.getfield 19, 3) := by decide +kernel
theorem dX10_statusOf_15 : decode cX10_statusOf 15 = .ok (.iconst 4, 1) := by decide +kernel
theorem dX10_statusOf_16 : decode cX10_statusOf 16 = .ok (.iload_n 1, 1) := by decide +kernel
theorem dX10_statusOf_17 : decode cX10_statusOf 17 = .ok (.imul, 1) := by decide +kernel
theorem dX10_statusOf_18 : decode cX10_statusOf 18 = .ok (.iconst 1, 1) := by decide +kernel
theorem dX10_statusOf_19 : decode cX10_statusOf 19 = .ok (.iadd, 1) := by decide +kernel
theorem dX10_statusOf_20 : decode cX10_statusOf 20 = .ok (.iaload, 1) := by decide +kernel
theorem dX10_statusOf_21 : decode cX10_statusOf 21 = .ok (.istore_n 2, 1) := by decide +kernel
theorem dX10_statusOf_22 : decode cX10_statusOf 22 = .ok (.aload_n 0, 1) := by decide +kernel
theorem dX10_statusOf_23 : decode cX10_statusOf 23 = .ok (.getfield 19, 3) := by decide +kernel
theorem dX10_statusOf_26 : decode cX10_statusOf 26 = .ok (.iconst 4, 1) := by decide +kernel
theorem dX10_statusOf_27 : decode cX10_statusOf 27 = .ok (.iload_n 1, 1) := by decide +kernel
theorem dX10_statusOf_28 : decode cX10_statusOf 28 = .ok (.imul, 1) := by decide +kernel
theorem dX10_statusOf_29 : decode cX10_statusOf 29 = .ok (.iconst 2, 1) := by decide +kernel
theorem dX10_statusOf_30 : decode cX10_statusOf 30 = .ok (.iadd, 1) := by decide +kernel
theorem dX10_statusOf_31 : decode cX10_statusOf 31 = .ok (.iaload, 1) := by decide +kernel
theorem dX10_statusOf_32 : decode cX10_statusOf 32 = .ok (.istore_n 3, 1) := by decide +kernel
theorem dX10_statusOf_33 : decode cX10_statusOf 33 = .ok (.aload_n 0, 1) := by decide +kernel
theorem dX10_statusOf_34 : decode cX10_statusOf 34 = .ok (.getfield 60, 3) := by decide +kernel
theorem dX10_statusOf_37 : decode cX10_statusOf 37 = .ok (.iload_n 1, 1) := by decide +kernel
theorem dX10_statusOf_38 : decode cX10_statusOf 38 = .ok (.iaload, 1) := by decide +kernel
theorem dX10_statusOf_39 : decode cX10_statusOf 39 = .ok (.ldc 90, 2) := by decide +kernel
theorem dX10_statusOf_41 : decode cX10_statusOf 41 = .ok (.if_icmp .ne 21, 3) := by decide +kernel
theorem dX10_statusOf_44 : decode cX10_statusOf 44 = .ok (.iload_n 2, 1) := by decide +kernel
theorem dX10_statusOf_45 : decode cX10_statusOf 45 = .ok (.ifCond .lt 15, 3) := by decide +kernel
theorem dX10_statusOf_48 : decode cX10_statusOf 48 = .ok (.aload_n 0, 1) := by decide +kernel
theorem dX10_statusOf_49 : decode cX10_statusOf 49 = .ok (.iload_n 2, 1) := by decide +kernel
theorem dX10_statusOf_50 : decode cX10_statusOf 50 = .ok (.invokevirtual 173, 3) := by decide +kernel
theorem dX10_statusOf_53 : decode cX10_statusOf 53 = .ok (.ifCond .eq 7, 3) := by decide +kernel
theorem dX10_statusOf_56 : decode cX10_statusOf 56 = .ok (.iconst 2, 1) := by decide +kernel
theorem dX10_statusOf_57 : decode cX10_statusOf 57 = .ok (.goto 4, 3) := by decide +kernel
theorem dX10_statusOf_60 : decode cX10_statusOf 60 = .ok (.iconst 1, 1) := by decide +kernel
theorem dX10_statusOf_61 : decode cX10_statusOf 61 = .ok (.ireturn, 1) := by decide +kernel
theorem dX10_statusOf_62 : decode cX10_statusOf 62 = .ok (.iload_n 3, 1) := by decide +kernel
theorem dX10_statusOf_63 : decode cX10_statusOf 63 = .ok (.ifCond .lt 16, 3) := by decide +kernel
theorem dX10_statusOf_66 : decode cX10_statusOf 66 = .ok (.aload_n 0, 1) := by decide +kernel
theorem dX10_statusOf_67 : decode cX10_statusOf 67 = .ok (.getfield 63, 3) := by decide +kernel
theorem dX10_statusOf_70 : decode cX10_statusOf 70 = .ok (.iload_n 3, 1) := by decide +kernel
theorem dX10_statusOf_71 : decode cX10_statusOf 71 = .ok (.iaload, 1) := by decide +kernel
theorem dX10_statusOf_72 : decode cX10_statusOf 72 = .ok (.ifCond .ne 7, 3) := by decide +kernel
theorem dX10_statusOf_75 : decode cX10_statusOf 75 = .ok (.iconst 4, 1) := by decide +kernel
theorem dX10_statusOf_76 : decode cX10_statusOf 76 = .ok (.goto 4, 3) := by decide +kernel
theorem dX10_statusOf_79 : decode cX10_statusOf 79 = .ok (.iconst 3, 1) := by decide +kernel
theorem dX10_statusOf_80 : decode cX10_statusOf 80 = .ok (.ireturn, 1) := by decide +kernel
theorem dX10_status_0 : decode cX10_status 0 = .ok (.iload_n 1, 1) := by decide +kernel
theorem dX10_status_1 : decode cX10_status 1 = .ok (.invokestatic 188, 3) := by decide +kernel
theorem dX10_status_4 : decode cX10_status 4 = .ok (.ifCond .ne 11, 3) := by decide +kernel
theorem dX10_status_7 : decode cX10_status 7 = .ok (.aload_n 0, 1) := by decide +kernel
theorem dX10_status_8 : decode cX10_status 8 = .ok (.iload_n 2, 1) := by decide +kernel
theorem dX10_status_9 : decode cX10_status 9 = .ok (.invokevirtual 114, 3) := by decide +kernel
theorem dX10_status_12 : decode cX10_status 12 = .ok (.ifCond .eq 5, 3) := by decide +kernel
theorem dX10_status_15 : decode cX10_status 15 = .ok (.iconst (-1), 1) := by decide +kernel
theorem dX10_status_16 : decode cX10_status 16 = .ok (.ireturn, 1) := by decide +kernel
theorem dX10_status_17 : decode cX10_status 17 = .ok (.aload_n 0, 1) := by decide +kernel
theorem dX10_status_18 : decode cX10_status 18 = .ok (.iload_n 1, 1) := by decide +kernel
theorem dX10_status_19 : decode cX10_status 19 = .ok (.invokevirtual 191, 3) := by decide +kernel
theorem dX10_status_22 : decode cX10_status 22 = .ok (.aload_n 0, 1) := by decide +kernel
theorem dX10_status_23 : decode cX10_status 23 = .ok (.iload_n 2, 1) := by decide +kernel
theorem dX10_status_24 : decode cX10_status 24 = .ok (.invokevirtual 194, 3) := by decide +kernel
theorem dX10_status_27 : decode cX10_status 27 = .ok (.ireturn, 1) := by decide +kernel
theorem dX10_done_0 : decode cX10_done 0 = .ok (.iload_n 1, 1) := by decide +kernel
theorem dX10_done_1 : decode cX10_done 1 = .ok (.invokestatic 188, 3) := by decide +kernel
theorem dX10_done_4 : decode cX10_done 4 = .ok (.ifCond .eq 5, 3) := by decide +kernel
theorem dX10_done_7 : decode cX10_done 7 = .ok (.iconst (-1), 1) := by decide +kernel
theorem dX10_done_8 : decode cX10_done 8 = .ok (.ireturn, 1) := by decide +kernel
theorem dX10_done_9 : decode cX10_done 9 = .ok (.aload_n 0, 1) := by decide +kernel
theorem dX10_done_10 : decode cX10_done 10 = .ok (.iload_n 1, 1) := by decide +kernel
theorem dX10_done_11 : decode cX10_done 11 = .ok (.invokevirtual 191, 3) := by decide +kernel
theorem dX10_done_14 : decode cX10_done 14 = .ok (.iconst 1, 1) := by decide +kernel
theorem dX10_done_15 : decode cX10_done 15 = .ok (.istore_n 2, 1) := by decide +kernel
theorem dX10_done_16 : decode cX10_done 16 = .ok (.iconst 0, 1) := by decide +kernel
theorem dX10_done_17 : decode cX10_done 17 = .ok (.istore_n 3, 1) := by decide +kernel
theorem dX10_done_18 : decode cX10_done 18 = .ok (.iload_n 3, 1) := by decide +kernel
theorem dX10_done_19 : decode cX10_done 19 = .ok (.aload_n 0, 1) := by decide +kernel
theorem dX10_done_20 : decode cX10_done 20 = .ok (.getfield 95, 3) := by decide +kernel
theorem dX10_done_23 : decode cX10_done 23 = .ok (.if_icmp .ge 37, 3) := by decide +kernel
theorem dX10_done_26 : decode cX10_done 26 = .ok (.iload_n 2, 1) := by decide +kernel
theorem dX10_done_27 : decode cX10_done 27 = .ok (.ifCond .eq 25, 3) := by decide +kernel
theorem dX10_done_30 : decode cX10_done 30 = .ok (.aload_n 0, 1) := by decide +kernel
theorem dX10_done_31 : decode cX10_done 31 = .ok (.iload_n 3, 1) := by decide +kernel
theorem dX10_done_32 : decode cX10_done 32 = .ok (.invokevirtual 194, 3) := by decide +kernel
theorem dX10_done_35 : decode cX10_done 35 = .ok (.iconst 2, 1) := by decide +kernel
theorem dX10_done_36 : decode cX10_done 36 = .ok (.if_icmp .eq 16, 3) := by decide +kernel
theorem dX10_done_39 : decode cX10_done 39 = .ok (.aload_n 0, 1) := by decide +kernel
theorem dX10_done_40 : decode cX10_done 40 = .ok (.iload_n 3, 1) := by decide +kernel
theorem dX10_done_41 : decode cX10_done 41 = .ok (.invokevirtual 194, 3) := by decide +kernel
theorem dX10_done_44 : decode cX10_done 44 = .ok (.iconst 4, 1) := by decide +kernel
theorem dX10_done_45 : decode cX10_done 45 = .ok (.if_icmp .eq 7, 3) := by decide +kernel
theorem dX10_done_48 : decode cX10_done 48 = .ok (.iconst 1, 1) := by decide +kernel
theorem dX10_done_49 : decode cX10_done 49 = .ok (.goto 4, 3) := by decide +kernel
theorem dX10_done_52 : decode cX10_done 52 = .ok (.iconst 0, 1) := by decide +kernel
theorem dX10_done_53 : decode cX10_done 53 = .ok (.istore_n 2, 1) := by decide +kernel
theorem dX10_done_54 : decode cX10_done 54 = .ok (.iinc 3 1, 3) := by decide +kernel
theorem dX10_done_57 : decode cX10_done 57 = .ok (.goto (-39), 3) := by decide +kernel
theorem dX10_done_60 : decode cX10_done 60 = .ok (.iload_n 2, 1) := by decide +kernel
theorem dX10_done_61 : decode cX10_done 61 = .ok (.ifCond .eq 7, 3) := by decide +kernel
theorem dX10_done_64 : decode cX10_done 64 = .ok (.iconst 1, 1) := by decide +kernel
theorem dX10_done_65 : decode cX10_done 65 = .ok (.goto 4, 3) := by decide +kernel
theorem dX10_done_68 : decode cX10_done 68 = .ok (.iconst 0, 1) := by decide +kernel
theorem dX10_done_69 : decode cX10_done 69 = .ok (.ireturn, 1) := by decide +kernel
theorem dX10_value_0 : decode cX10_value 0 = .ok (.iload_n 1, 1) := by decide +kernel
theorem dX10_value_1 : decode cX10_value 1 = .ok (.invokestatic 188, 3) := by decide +kernel
theorem dX10_value_4 : decode cX10_value 4 = .ok (.ifCond .ne 11, 3) := by decide +kernel
theorem dX10_value_7 : decode cX10_value 7 = .ok (.aload_n 0, 1) := by decide +kernel
theorem dX10_value_8 : decode cX10_value 8 = .ok (.iload_n 2, 1) := by decide +kernel
theorem dX10_value_9 : decode cX10_value 9 = .ok (.invokevirtual 117, 3) := by decide +kernel
theorem dX10_value_12 : decode cX10_value 12 = .ok (.ifCond .eq 6, 3) := by decide +kernel
theorem dX10_value_15 : decode cX10_value 15 = .ok (.ldc 90, 2) := by decide +kernel
theorem dX10_value_17 : decode cX10_value 17 = .ok (.ireturn, 1) := by decide +kernel
theorem dX10_value_18 : decode cX10_value 18 = .ok (.aload_n 0, 1) := by decide +kernel
theorem dX10_value_19 : decode cX10_value 19 = .ok (.iload_n 1, 1) := by decide +kernel
theorem dX10_value_20 : decode cX10_value 20 = .ok (.invokevirtual 191, 3) := by decide +kernel
theorem dX10_value_23 : decode cX10_value 23 = .ok (.aload_n 0, 1) := by decide +kernel
theorem dX10_value_24 : decode cX10_value 24 = .ok (.getfield 63, 3) := by decide +kernel
theorem dX10_value_27 : decode cX10_value 27 = .ok (.iload_n 2, 1) := by decide +kernel
theorem dX10_value_28 : decode cX10_value 28 = .ok (.iaload, 1) := by decide +kernel
theorem dX10_value_29 : decode cX10_value 29 = .ok (.ireturn, 1) := by decide +kernel
theorem dX10_copy_0 : decode cX10_copy 0 = .ok (.iload_n 1, 1) := by decide +kernel
theorem dX10_copy_1 : decode cX10_copy 1 = .ok (.invokestatic 188, 3) := by decide +kernel
theorem dX10_copy_4 : decode cX10_copy 4 = .ok (.ifCond .ne 10, 3) := by decide +kernel
theorem dX10_copy_7 : decode cX10_copy 7 = .ok (.iload_n 2, 1) := by decide +kernel
theorem dX10_copy_8 : decode cX10_copy 8 = .ok (.invokestatic 188, 3) := by decide +kernel
theorem dX10_copy_11 : decode cX10_copy 11 = .ok (.ifCond .eq 5, 3) := by decide +kernel
theorem dX10_copy_14 : decode cX10_copy 14 = .ok (.iconst (-1), 1) := by decide +kernel
theorem dX10_copy_15 : decode cX10_copy 15 = .ok (.ireturn, 1) := by decide +kernel
theorem dX10_copy_16 : decode cX10_copy 16 = .ok (.aload_n 0, 1) := by decide +kernel
theorem dX10_copy_17 : decode cX10_copy 17 = .ok (.iload_n 2, 1) := by decide +kernel
theorem dX10_copy_18 : decode cX10_copy 18 = .ok (.invokevirtual 197, 3) := by decide +kernel
theorem dX10_copy_21 : decode cX10_copy 21 = .ok (.ifCond .eq 6, 3) := by decide +kernel
theorem dX10_copy_24 : decode cX10_copy 24 = .ok (.bipush (-3), 2) := by decide +kernel
theorem dX10_copy_26 : decode cX10_copy 26 = .ok (.ireturn, 1) := by decide +kernel
theorem dX10_copy_27 : decode cX10_copy 27 = .ok (.iconst 0, 1) := by decide +kernel
theorem dX10_copy_28 : decode cX10_copy 28 = .ok (.istore_n 3, 1) := by decide +kernel
theorem dX10_copy_29 : decode cX10_copy 29 = .ok (.iconst 0, 1) := by decide +kernel
theorem dX10_copy_30 : decode cX10_copy 30 = .ok (.istore 4, 2) := by decide +kernel
theorem dX10_copy_32 : decode cX10_copy 32 = .ok (.iload 4, 2) := by decide +kernel
theorem dX10_copy_34 : decode cX10_copy 34 = .ok (.aload_n 0, 1) := by decide +kernel
theorem dX10_copy_35 : decode cX10_copy 35 = .ok (.getfield 95, 3) := by decide +kernel
theorem dX10_copy_38 : decode cX10_copy 38 = .ok (.if_icmp .ge 68, 3) := by decide +kernel
theorem dX10_copy_41 : decode cX10_copy 41 = .ok (.iload_n 3, 1) := by decide +kernel
theorem dX10_copy_42 : decode cX10_copy 42 = .ok (.aload_n 0, 1) := by decide +kernel
theorem dX10_copy_43 : decode cX10_copy 43 = .ok (.getfield 66, 3) := by decide +kernel
theorem dX10_copy_46 : decode cX10_copy 46 = .ok (.bipush 12, 2) := by decide +kernel
theorem dX10_copy_48 : decode cX10_copy 48 = .ok (.iload_n 1, 1) := by decide +kernel
theorem dX10_copy_49 : decode cX10_copy 49 = .ok (.imul, 1) := by decide +kernel
theorem dX10_copy_50 : decode cX10_copy 50 = .ok (.iload 4, 2) := by decide +kernel
theorem dX10_copy_52 : decode cX10_copy 52 = .ok (.iadd, 1) := by decide +kernel
theorem dX10_copy_53 : decode cX10_copy 53 = .ok (.iaload, 1) := by decide +kernel
theorem dX10_copy_54 : decode cX10_copy 54 = .ok (.aload_n 0, 1) := by decide +kernel
theorem dX10_copy_55 : decode cX10_copy 55 = .ok (.getfield 66, 3) := by decide +kernel
theorem dX10_copy_58 : decode cX10_copy 58 = .ok (.bipush 12, 2) := by decide +kernel
theorem dX10_copy_60 : decode cX10_copy 60 = .ok (.iload_n 2, 1) := by decide +kernel
theorem dX10_copy_61 : decode cX10_copy 61 = .ok (.imul, 1) := by decide +kernel
theorem dX10_copy_62 : decode cX10_copy 62 = .ok (.iload 4, 2) := by decide +kernel
theorem dX10_copy_64 : decode cX10_copy 64 = .ok (.iadd, 1) := by decide +kernel
theorem dX10_copy_65 : decode cX10_copy 65 = .ok (.iaload, 1) := by decide +kernel
theorem dX10_copy_66 : decode cX10_copy 66 = .ok (.if_icmp .eq 7, 3) := by decide +kernel
theorem dX10_copy_69 : decode cX10_copy 69 = .ok (.iconst 1, 1) := by decide +kernel
theorem dX10_copy_70 : decode cX10_copy 70 = .ok (.goto 4, 3) := by decide +kernel
theorem dX10_copy_73 : decode cX10_copy 73 = .ok (.iconst 0, 1) := by decide +kernel
theorem dX10_copy_74 : decode cX10_copy 74 = .ok (.iadd, 1) := by decide +kernel
theorem dX10_copy_75 : decode cX10_copy 75 = .ok (.istore_n 3, 1) := by decide +kernel
theorem dX10_copy_76 : decode cX10_copy 76 = .ok (.aload_n 0, 1) := by decide +kernel
theorem dX10_copy_77 : decode cX10_copy 77 = .ok (.getfield 66, 3) := by decide +kernel
theorem dX10_copy_80 : decode cX10_copy 80 = .ok (.bipush 12, 2) := by decide +kernel
theorem dX10_copy_82 : decode cX10_copy 82 = .ok (.iload_n 2, 1) := by decide +kernel
theorem dX10_copy_83 : decode cX10_copy 83 = .ok (.imul, 1) := by decide +kernel
theorem dX10_copy_84 : decode cX10_copy 84 = .ok (.iload 4, 2) := by decide +kernel
theorem dX10_copy_86 : decode cX10_copy 86 = .ok (.iadd, 1) := by decide +kernel
theorem dX10_copy_87 : decode cX10_copy 87 = .ok (.aload_n 0, 1) := by decide +kernel
theorem dX10_copy_88 : decode cX10_copy 88 = .ok (.getfield 66, 3) := by decide +kernel
theorem dX10_copy_91 : decode cX10_copy 91 = .ok (.bipush 12, 2) := by decide +kernel
theorem dX10_copy_93 : decode cX10_copy 93 = .ok (.iload_n 1, 1) := by decide +kernel
theorem dX10_copy_94 : decode cX10_copy 94 = .ok (.imul, 1) := by decide +kernel
theorem dX10_copy_95 : decode cX10_copy 95 = .ok (.iload 4, 2) := by decide +kernel
theorem dX10_copy_97 : decode cX10_copy 97 = .ok (.iadd, 1) := by decide +kernel
theorem dX10_copy_98 : decode cX10_copy 98 = .ok (.iaload, 1) := by decide +kernel
theorem dX10_copy_99 : decode cX10_copy 99 = .ok (.iastore, 1) := by decide +kernel
theorem dX10_copy_100 : decode cX10_copy 100 = .ok (.iinc 4 1, 3) := by decide +kernel
theorem dX10_copy_103 : decode cX10_copy 103 = .ok (.goto (-71), 3) := by decide +kernel
theorem dX10_copy_106 : decode cX10_copy 106 = .ok (.iload_n 3, 1) := by decide +kernel
theorem dX10_copy_107 : decode cX10_copy 107 = .ok (.ireturn, 1) := by decide +kernel
theorem dX10_join_0 : decode cX10_join 0 = .ok (.iload_n 1, 1) := by decide +kernel
theorem dX10_join_1 : decode cX10_join 1 = .ok (.invokestatic 188, 3) := by decide +kernel
theorem dX10_join_4 : decode cX10_join 4 = .ok (.ifCond .ne 25, 3) := by decide +kernel
theorem dX10_join_7 : decode cX10_join 7 = .ok (.iload_n 2, 1) := by decide +kernel
theorem dX10_join_8 : decode cX10_join 8 = .ok (.invokestatic 188, 3) := by decide +kernel
theorem dX10_join_11 : decode cX10_join 11 = .ok (.ifCond .ne 18, 3) := by decide +kernel
theorem dX10_join_14 : decode cX10_join 14 = .ok (.iload_n 3, 1) := by decide +kernel
theorem dX10_join_15 : decode cX10_join 15 = .ok (.invokestatic 188, 3) := by decide +kernel
theorem dX10_join_18 : decode cX10_join 18 = .ok (.ifCond .ne 11, 3) := by decide +kernel
theorem dX10_join_21 : decode cX10_join 21 = .ok (.iload 4, 2) := by decide +kernel
theorem dX10_join_23 : decode cX10_join 23 = .ok (.invokestatic 188, 3) := by decide +kernel
theorem dX10_join_26 : decode cX10_join 26 = .ok (.ifCond .eq 5, 3) := by decide +kernel
theorem dX10_join_29 : decode cX10_join 29 = .ok (.iconst (-1), 1) := by decide +kernel
theorem dX10_join_30 : decode cX10_join 30 = .ok (.ireturn, 1) := by decide +kernel
theorem dX10_join_31 : decode cX10_join 31 = .ok (.aload_n 0, 1) := by decide +kernel
theorem dX10_join_32 : decode cX10_join 32 = .ok (.iload 4, 2) := by decide +kernel
theorem dX10_join_34 : decode cX10_join 34 = .ok (.invokevirtual 197, 3) := by decide +kernel
theorem dX10_join_37 : decode cX10_join 37 = .ok (.ifCond .eq 6, 3) := by decide +kernel
theorem dX10_join_40 : decode cX10_join 40 = .ok (.bipush (-3), 2) := by decide +kernel
theorem dX10_join_42 : decode cX10_join 42 = .ok (.ireturn, 1) := by decide +kernel
theorem dX10_join_43 : decode cX10_join 43 = .ok (.aload_n 0, 1) := by decide +kernel
theorem dX10_join_44 : decode cX10_join 44 = .ok (.iconst 0, 1) := by decide +kernel
theorem dX10_join_45 : decode cX10_join 45 = .ok (.putfield 200, 3) := by decide +kernel
theorem dX10_join_48 : decode cX10_join 48 = .ok (.iconst 0, 1) := by decide +kernel
theorem dX10_join_49 : decode cX10_join 49 = .ok (.istore 5, 2) := by decide +kernel
theorem dX10_join_51 : decode cX10_join 51 = .ok (.iload 5, 2) := by decide +kernel
theorem dX10_join_53 : decode cX10_join 53 = .ok (.aload_n 0, 1) := by decide +kernel
theorem dX10_join_54 : decode cX10_join 54 = .ok (.getfield 95, 3) := by decide +kernel
theorem dX10_join_57 : decode cX10_join 57 = .ok (.if_icmp .ge 127, 3) := by decide +kernel
theorem dX10_join_60 : decode cX10_join 60 = .ok (.aload_n 0, 1) := by decide +kernel
theorem dX10_join_61 : decode cX10_join 61 = .ok (.getfield 66, 3) := by decide +kernel
theorem dX10_join_64 : decode cX10_join 64 = .ok (.bipush 12, 2) := by decide +kernel
theorem dX10_join_66 : decode cX10_join 66 = .ok (.iload_n 1, 1) := by decide +kernel
theorem dX10_join_67 : decode cX10_join 67 = .ok (.imul, 1) := by decide +kernel
theorem dX10_join_68 : decode cX10_join 68 = .ok (.iload 5, 2) := by decide +kernel
theorem dX10_join_70 : decode cX10_join 70 = .ok (.iadd, 1) := by decide +kernel
theorem dX10_join_71 : decode cX10_join 71 = .ok (.iaload, 1) := by decide +kernel
theorem dX10_join_72 : decode cX10_join 72 = .ok (.istore 6, 2) := by decide +kernel
theorem dX10_join_74 : decode cX10_join 74 = .ok (.aload_n 0, 1) := by decide +kernel
theorem dX10_join_75 : decode cX10_join 75 = .ok (.getfield 66, 3) := by decide +kernel
theorem dX10_join_78 : decode cX10_join 78 = .ok (.bipush 12, 2) := by decide +kernel
theorem dX10_join_80 : decode cX10_join 80 = .ok (.iload_n 2, 1) := by decide +kernel
theorem dX10_join_81 : decode cX10_join 81 = .ok (.imul, 1) := by decide +kernel
theorem dX10_join_82 : decode cX10_join 82 = .ok (.iload 5, 2) := by decide +kernel
theorem dX10_join_84 : decode cX10_join 84 = .ok (.iadd, 1) := by decide +kernel
theorem dX10_join_85 : decode cX10_join 85 = .ok (.iaload, 1) := by decide +kernel
theorem dX10_join_86 : decode cX10_join 86 = .ok (.istore 7, 2) := by decide +kernel
theorem dX10_join_88 : decode cX10_join 88 = .ok (.aload_n 0, 1) := by decide +kernel
theorem dX10_join_89 : decode cX10_join 89 = .ok (.getfield 66, 3) := by decide +kernel
theorem dX10_join_92 : decode cX10_join 92 = .ok (.bipush 12, 2) := by decide +kernel
theorem dX10_join_94 : decode cX10_join 94 = .ok (.iload_n 3, 1) := by decide +kernel
theorem dX10_join_95 : decode cX10_join 95 = .ok (.imul, 1) := by decide +kernel
theorem dX10_join_96 : decode cX10_join 96 = .ok (.iload 5, 2) := by decide +kernel
theorem dX10_join_98 : decode cX10_join 98 = .ok (.iadd, 1) := by decide +kernel
theorem dX10_join_99 : decode cX10_join 99 = .ok (.iaload, 1) := by decide +kernel
theorem dX10_join_100 : decode cX10_join 100 = .ok (.istore 8, 2) := by decide +kernel
theorem dX10_join_102 : decode cX10_join 102 = .ok (.iload 7, 2) := by decide +kernel
theorem dX10_join_104 : decode cX10_join 104 = .ok (.iload 8, 2) := by decide +kernel
theorem dX10_join_106 : decode cX10_join 106 = .ok (.if_icmp .eq 38, 3) := by decide +kernel
theorem dX10_join_109 : decode cX10_join 109 = .ok (.iload 7, 2) := by decide +kernel
theorem dX10_join_111 : decode cX10_join 111 = .ok (.iload 6, 2) := by decide +kernel
theorem dX10_join_113 : decode cX10_join 113 = .ok (.if_icmp .eq 31, 3) := by decide +kernel
theorem dX10_join_116 : decode cX10_join 116 = .ok (.iload 8, 2) := by decide +kernel
theorem dX10_join_118 : decode cX10_join 118 = .ok (.iload 6, 2) := by decide +kernel
theorem dX10_join_120 : decode cX10_join 120 = .ok (.if_icmp .eq 24, 3) := by decide +kernel
theorem dX10_join_123 : decode cX10_join 123 = .ok (.aload_n 0, 1) := by decide +kernel
theorem dX10_join_124 : decode cX10_join 124 = .ok (.getfield 69, 3) := by decide +kernel
theorem dX10_join_127 : decode cX10_join 127 = .ok (.aload_n 0, 1) := by decide +kernel
theorem dX10_join_128 : decode cX10_join 128 = .ok (.getfield 200, 3) := by decide +kernel
theorem dX10_join_131 : decode cX10_join 131 = .ok (.iload 5, 2) := by decide +kernel
theorem dX10_join_133 : decode cX10_join 133 = .ok (.iastore, 1) := by decide +kernel
theorem dX10_join_134 : decode cX10_join 134 = .ok (.aload_n 0, 1) := by decide +kernel
theorem dX10_join_135 : decode cX10_join 135 = .ok (.dup, 1) := by decide +kernel
theorem dX10_join_136 : decode cX10_join 136 = .ok (.getfield 200, 3) := by decide +kernel
theorem dX10_join_139 : decode cX10_join 139 = .ok (.iconst 1, 1) := by decide +kernel
theorem dX10_join_140 : decode cX10_join 140 = .ok (.iadd, 1) := by decide +kernel
theorem dX10_join_141 : decode cX10_join 141 = .ok (.putfield 200, 3) := by decide +kernel
theorem dX10_join_144 : decode cX10_join 144 = .ok (.aload_n 0, 1) := by decide +kernel
theorem dX10_join_145 : decode cX10_join 145 = .ok (.getfield 66, 3) := by decide +kernel
theorem dX10_join_148 : decode cX10_join 148 = .ok (.bipush 12, 2) := by decide +kernel
theorem dX10_join_150 : decode cX10_join 150 = .ok (.iload 4, 2) := by decide +kernel
theorem dX10_join_152 : decode cX10_join 152 = .ok (.imul, 1) := by decide +kernel
theorem dX10_join_153 : decode cX10_join 153 = .ok (.iload 5, 2) := by decide +kernel
theorem dX10_join_155 : decode cX10_join 155 = .ok (.iadd, 1) := by decide +kernel
theorem dX10_join_156 : decode cX10_join 156 = .ok (.iload 7, 2) := by decide +kernel
theorem dX10_join_158 : decode cX10_join 158 = .ok (.iload 8, 2) := by decide +kernel
theorem dX10_join_160 : decode cX10_join 160 = .ok (.if_icmp .eq 15, 3) := by decide +kernel
theorem dX10_join_163 : decode cX10_join 163 = .ok (.iload 7, 2) := by decide +kernel
theorem dX10_join_165 : decode cX10_join 165 = .ok (.iload 6, 2) := by decide +kernel
theorem dX10_join_167 : decode cX10_join 167 = .ok (.if_icmp .ne 8, 3) := by decide +kernel
theorem dX10_join_170 : decode cX10_join 170 = .ok (.iload 8, 2) := by decide +kernel
theorem dX10_join_172 : decode cX10_join 172 = .ok (.goto 5, 3) := by decide +kernel
theorem dX10_join_175 : decode cX10_join 175 = .ok (.iload 7, 2) := by decide +kernel
theorem dX10_join_177 : decode cX10_join 177 = .ok (.iastore, 1) := by decide +kernel
theorem dX10_join_178 : decode cX10_join 178 = .ok (.iinc 5 1, 3) := by decide +kernel
theorem dX10_join_181 : decode cX10_join 181 = .ok (.goto (-130), 3) := by decide +kernel
theorem dX10_join_184 : decode cX10_join 184 = .ok (.aload_n 0, 1) := by decide +kernel
theorem dX10_join_185 : decode cX10_join 185 = .ok (.getfield 200, 3) := by decide +kernel
theorem dX10_join_188 : decode cX10_join 188 = .ok (.ireturn, 1) := by decide +kernel
theorem dX10_odds_0 : decode cX10_odds 0 = .ok (.iload_n 1, 1) := by decide +kernel
theorem dX10_odds_1 : decode cX10_odds 1 = .ok (.iconst 0, 1) := by decide +kernel
theorem dX10_odds_2 : decode cX10_odds 2 = .ok (.aload_n 0, 1) := by decide +kernel
theorem dX10_odds_3 : decode cX10_odds 3 = .ok (.getfield 200, 3) := by decide +kernel
theorem dX10_odds_6 : decode cX10_odds 6 = .ok (.iconst 1, 1) := by decide +kernel
theorem dX10_odds_7 : decode cX10_odds 7 = .ok (.isub, 1) := by decide +kernel
theorem dX10_odds_8 : decode cX10_odds 8 = .ok (.invokestatic 99, 3) := by decide +kernel
theorem dX10_odds_11 : decode cX10_odds 11 = .ok (.ifCond .eq 12, 3) := by decide +kernel
theorem dX10_odds_14 : decode cX10_odds 14 = .ok (.aload_n 0, 1) := by decide +kernel
theorem dX10_odds_15 : decode cX10_odds 15 = .ok (.getfield 69, 3) := by decide +kernel
theorem dX10_odds_18 : decode cX10_odds 18 = .ok (.iload_n 1, 1) := by decide +kernel
theorem dX10_odds_19 : decode cX10_odds 19 = .ok (.iaload, 1) := by decide +kernel
theorem dX10_odds_20 : decode cX10_odds 20 = .ok (.goto 4, 3) := by decide +kernel
theorem dX10_odds_23 : decode cX10_odds 23 = .ok (.iconst (-1), 1) := by decide +kernel
theorem dX10_odds_24 : decode cX10_odds 24 = .ok (.ireturn, 1) := by decide +kernel
theorem dX10_noSeal_0 : decode cX10_noSeal 0 = .ok (.iload_n 1, 1) := by decide +kernel
theorem dX10_noSeal_1 : decode cX10_noSeal 1 = .ok (.iconst 0, 1) := by decide +kernel
theorem dX10_noSeal_2 : decode cX10_noSeal 2 = .ok (.aload_n 0, 1) := by decide +kernel
theorem dX10_noSeal_3 : decode cX10_noSeal 3 = .ok (.getfield 181, 3) := by decide +kernel
theorem dX10_noSeal_6 : decode cX10_noSeal 6 = .ok (.iconst 1, 1) := by decide +kernel
theorem dX10_noSeal_7 : decode cX10_noSeal 7 = .ok (.isub, 1) := by decide +kernel
theorem dX10_noSeal_8 : decode cX10_noSeal 8 = .ok (.invokestatic 99, 3) := by decide +kernel
theorem dX10_noSeal_11 : decode cX10_noSeal 11 = .ok (.ifCond .ne 7, 3) := by decide +kernel
theorem dX10_noSeal_14 : decode cX10_noSeal 14 = .ok (.iconst 1, 1) := by decide +kernel
theorem dX10_noSeal_15 : decode cX10_noSeal 15 = .ok (.goto 4, 3) := by decide +kernel
theorem dX10_noSeal_18 : decode cX10_noSeal 18 = .ok (.iconst 0, 1) := by decide +kernel
theorem dX10_noSeal_19 : decode cX10_noSeal 19 = .ok (.ireturn, 1) := by decide +kernel
theorem dX10_seal_0 : decode cX10_seal 0 = .ok (.iload_n 1, 1) := by decide +kernel
theorem dX10_seal_1 : decode cX10_seal 1 = .ok (.invokestatic 188, 3) := by decide +kernel
theorem dX10_seal_4 : decode cX10_seal 4 = .ok (.ifCond .eq 5, 3) := by decide +kernel
theorem dX10_seal_7 : decode cX10_seal 7 = .ok (.iconst (-1), 1) := by decide +kernel
theorem dX10_seal_8 : decode cX10_seal 8 = .ok (.ireturn, 1) := by decide +kernel
theorem dX10_seal_9 : decode cX10_seal 9 = .ok (.iload_n 2, 1) := by decide +kernel
theorem dX10_seal_10 : decode cX10_seal 10 = .ok (.iconst 1, 1) := by decide +kernel
theorem dX10_seal_11 : decode cX10_seal 11 = .ok (.iconst 1, 1) := by decide +kernel
theorem dX10_seal_12 : decode cX10_seal 12 = .ok (.aload_n 0, 1) := by decide +kernel
theorem dX10_seal_13 : decode cX10_seal 13 = .ok (.getfield 95, 3) := by decide +kernel
theorem dX10_seal_16 : decode cX10_seal 16 = .ok (.ishl, 1) := by decide +kernel
theorem dX10_seal_17 : decode cX10_seal 17 = .ok (.iconst 1, 1) := by decide +kernel
theorem dX10_seal_18 : decode cX10_seal 18 = .ok (.isub, 1) := by decide +kernel
theorem dX10_seal_19 : decode cX10_seal 19 = .ok (.invokestatic 99, 3) := by decide +kernel
theorem dX10_seal_22 : decode cX10_seal 22 = .ok (.ifCond .ne 6, 3) := by decide +kernel
theorem dX10_seal_25 : decode cX10_seal 25 = .ok (.bipush (-2), 2) := by decide +kernel
theorem dX10_seal_27 : decode cX10_seal 27 = .ok (.ireturn, 1) := by decide +kernel
theorem dX10_seal_28 : decode cX10_seal 28 = .ok (.aload_n 0, 1) := by decide +kernel
theorem dX10_seal_29 : decode cX10_seal 29 = .ok (.getfield 181, 3) := by decide +kernel
theorem dX10_seal_32 : decode cX10_seal 32 = .ok (.bipush 6, 2) := by decide +kernel
theorem dX10_seal_34 : decode cX10_seal 34 = .ok (.if_icmp .ne 6, 3) := by decide +kernel
theorem dX10_seal_37 : decode cX10_seal 37 = .ok (.bipush (-4), 2) := by decide +kernel
theorem dX10_seal_39 : decode cX10_seal 39 = .ok (.ireturn, 1) := by decide +kernel
theorem dX10_seal_40 : decode cX10_seal 40 = .ok (.aload_n 0, 1) := by decide +kernel
theorem dX10_seal_41 : decode cX10_seal 41 = .ok (.iload_n 1, 1) := by decide +kernel
theorem dX10_seal_42 : decode cX10_seal 42 = .ok (.invokevirtual 191, 3) := by decide +kernel
theorem dX10_seal_45 : decode cX10_seal 45 = .ok (.aload_n 0, 1) := by decide +kernel
theorem dX10_seal_46 : decode cX10_seal 46 = .ok (.getfield 72, 3) := by decide +kernel
theorem dX10_seal_49 : decode cX10_seal 49 = .ok (.aload_n 0, 1) := by decide +kernel
theorem dX10_seal_50 : decode cX10_seal 50 = .ok (.getfield 181, 3) := by decide +kernel
theorem dX10_seal_53 : decode cX10_seal 53 = .ok (.iload_n 1, 1) := by decide +kernel
theorem dX10_seal_54 : decode cX10_seal 54 = .ok (.iastore, 1) := by decide +kernel
theorem dX10_seal_55 : decode cX10_seal 55 = .ok (.aload_n 0, 1) := by decide +kernel
theorem dX10_seal_56 : decode cX10_seal 56 = .ok (.getfield 75, 3) := by decide +kernel
theorem dX10_seal_59 : decode cX10_seal 59 = .ok (.aload_n 0, 1) := by decide +kernel
theorem dX10_seal_60 : decode cX10_seal 60 = .ok (.getfield 181, 3) := by decide +kernel
theorem dX10_seal_63 : decode cX10_seal 63 = .ok (.iload_n 2, 1) := by decide +kernel
theorem dX10_seal_64 : decode cX10_seal 64 = .ok (.iastore, 1) := by decide +kernel
theorem dX10_seal_65 : decode cX10_seal 65 = .ok (.aload_n 0, 1) := by decide +kernel
theorem dX10_seal_66 : decode cX10_seal 66 = .ok (.getfield 78, 3) := by decide +kernel
theorem dX10_seal_69 : decode cX10_seal 69 = .ok (.aload_n 0, 1) := by decide +kernel
theorem dX10_seal_70 : decode cX10_seal 70 = .ok (.getfield 181, 3) := by decide +kernel
theorem dX10_seal_73 : decode cX10_seal 73 = .ok (.iconst 0, 1) := by decide +kernel
theorem dX10_seal_74 : decode cX10_seal 74 = .ok (.bastore, 1) := by decide +kernel
theorem dX10_seal_75 : decode cX10_seal 75 = .ok (.iconst 0, 1) := by decide +kernel
theorem dX10_seal_76 : decode cX10_seal 76 = .ok (.istore_n 3, 1) := by decide +kernel
theorem dX10_seal_77 : decode cX10_seal 77 = .ok (.iload_n 3, 1) := by decide +kernel
theorem dX10_seal_78 : decode cX10_seal 78 = .ok (.bipush 12, 2) := by decide +kernel
theorem dX10_seal_80 : decode cX10_seal 80 = .ok (.if_icmp .ge 98, 3) := by decide +kernel
theorem dX10_seal_83 : decode cX10_seal 83 = .ok (.iload_n 2, 1) := by decide +kernel
theorem dX10_seal_84 : decode cX10_seal 84 = .ok (.iload_n 3, 1) := by decide +kernel
theorem dX10_seal_85 : decode cX10_seal 85 = .ok (.ishr, 1) := by decide +kernel
theorem dX10_seal_86 : decode cX10_seal 86 = .ok (.iconst 1, 1) := by decide +kernel
theorem dX10_seal_87 : decode cX10_seal 87 = .ok (.iand, 1) := by decide +kernel
theorem dX10_seal_88 : decode cX10_seal 88 = .ok (.iconst 1, 1) := by decide +kernel
theorem dX10_seal_89 : decode cX10_seal 89 = .ok (.if_icmp .ne 7, 3) := by decide +kernel
theorem dX10_seal_92 : decode cX10_seal 92 = .ok (.iconst 1, 1) := by decide +kernel
theorem dX10_seal_93 : decode cX10_seal 93 = .ok (.goto 4, 3) := by decide +kernel
theorem dX10_seal_96 : decode cX10_seal 96 = .ok (.iconst 0, 1) := by decide +kernel
theorem dX10_seal_97 : decode cX10_seal 97 = .ok (.istore 4, 2) := by decide +kernel
theorem dX10_seal_99 : decode cX10_seal 99 = .ok (.aload_n 0, 1) := by decide +kernel
theorem dX10_seal_100 : decode cX10_seal 100 = .ok (.getfield 81, 3) := by decide +kernel
theorem dX10_seal_103 : decode cX10_seal 103 = .ok (.bipush 12, 2) := by decide +kernel
theorem dX10_seal_105 : decode cX10_seal 105 = .ok (.aload_n 0, 1) := by decide +kernel
theorem dX10_seal_106 : decode cX10_seal 106 = .ok (.getfield 181, 3) := by decide +kernel
theorem dX10_seal_109 : decode cX10_seal 109 = .ok (.imul, 1) := by decide +kernel
theorem dX10_seal_110 : decode cX10_seal 110 = .ok (.iload_n 3, 1) := by decide +kernel
theorem dX10_seal_111 : decode cX10_seal 111 = .ok (.iadd, 1) := by decide +kernel
theorem dX10_seal_112 : decode cX10_seal 112 = .ok (.iload 4, 2) := by decide +kernel
theorem dX10_seal_114 : decode cX10_seal 114 = .ok (.ifCond .eq 26, 3) := by decide +kernel
theorem dX10_seal_117 : decode cX10_seal 117 = .ok (.aload_n 0, 1) := by decide +kernel
theorem dX10_seal_118 : decode cX10_seal 118 = .ok (.getfield 16, 3) := by decide +kernel
theorem dX10_seal_121 : decode cX10_seal 121 = .ok (.iload_n 3, 1) := by decide +kernel
theorem dX10_seal_122 : decode cX10_seal 122 = .ok (.iaload, 1) := by decide +kernel
theorem dX10_seal_123 : decode cX10_seal 123 = .ok (.ifCond .ne 17, 3) := by decide +kernel
theorem dX10_seal_126 : decode cX10_seal 126 = .ok (.aload_n 0, 1) := by decide +kernel
theorem dX10_seal_127 : decode cX10_seal 127 = .ok (.getfield 66, 3) := by decide +kernel
theorem dX10_seal_130 : decode cX10_seal 130 = .ok (.bipush 12, 2) := by decide +kernel
theorem dX10_seal_132 : decode cX10_seal 132 = .ok (.iload_n 1, 1) := by decide +kernel
theorem dX10_seal_133 : decode cX10_seal 133 = .ok (.imul, 1) := by decide +kernel
theorem dX10_seal_134 : decode cX10_seal 134 = .ok (.iload_n 3, 1) := by decide +kernel
theorem dX10_seal_135 : decode cX10_seal 135 = .ok (.iadd, 1) := by decide +kernel
theorem dX10_seal_136 : decode cX10_seal 136 = .ok (.iaload, 1) := by decide +kernel
theorem dX10_seal_137 : decode cX10_seal 137 = .ok (.goto 5, 3) := by decide +kernel
theorem dX10_seal_140 : decode cX10_seal 140 = .ok (.ldc 90, 2) := by decide +kernel
theorem dX10_seal_142 : decode cX10_seal 142 = .ok (.iastore, 1) := by decide +kernel
theorem dX10_seal_143 : decode cX10_seal 143 = .ok (.aload_n 0, 1) := by decide +kernel
theorem dX10_seal_144 : decode cX10_seal 144 = .ok (.getfield 84, 3) := by decide +kernel
theorem dX10_seal_147 : decode cX10_seal 147 = .ok (.bipush 12, 2) := by decide +kernel
theorem dX10_seal_149 : decode cX10_seal 149 = .ok (.aload_n 0, 1) := by decide +kernel
theorem dX10_seal_150 : decode cX10_seal 150 = .ok (.getfield 181, 3) := by decide +kernel
theorem dX10_seal_153 : decode cX10_seal 153 = .ok (.imul, 1) := by decide +kernel
theorem dX10_seal_154 : decode cX10_seal 154 = .ok (.iload_n 3, 1) := by decide +kernel
theorem dX10_seal_155 : decode cX10_seal 155 = .ok (.iadd, 1) := by decide +kernel
theorem dX10_seal_156 : decode cX10_seal 156 = .ok (.iload 4, 2) := by decide +kernel
theorem dX10_seal_158 : decode cX10_seal 158 = .ok (.ifCond .eq 11, 3) := by decide +kernel
theorem dX10_seal_161 : decode cX10_seal 161 = .ok (.aload_n 0, 1) := by decide +kernel
theorem dX10_seal_162 : decode cX10_seal 162 = .ok (.iload_n 3, 1) := by decide +kernel
theorem dX10_seal_163 : decode cX10_seal 163 = .ok (.invokevirtual 194, 3) := by decide +kernel
theorem dX10_seal_166 : decode cX10_seal 166 = .ok (.goto 5, 3) := by decide +kernel
theorem dX10_seal_169 : decode cX10_seal 169 = .ok (.bipush (-9), 2) := by decide +kernel
theorem dX10_seal_171 : decode cX10_seal 171 = .ok (.iastore, 1) := by decide +kernel
theorem dX10_seal_172 : decode cX10_seal 172 = .ok (.iinc 3 1, 3) := by decide +kernel
theorem dX10_seal_175 : decode cX10_seal 175 = .ok (.goto (-98), 3) := by decide +kernel
theorem dX10_seal_178 : decode cX10_seal 178 = .ok (.aload_n 0, 1) := by decide +kernel
theorem dX10_seal_179 : decode cX10_seal 179 = .ok (.dup, 1) := by decide +kernel
theorem dX10_seal_180 : decode cX10_seal 180 = .ok (.getfield 181, 3) := by decide +kernel
theorem dX10_seal_183 : decode cX10_seal 183 = .ok (.iconst 1, 1) := by decide +kernel
theorem dX10_seal_184 : decode cX10_seal 184 = .ok (.iadd, 1) := by decide +kernel
theorem dX10_seal_185 : decode cX10_seal 185 = .ok (.putfield 181, 3) := by decide +kernel
theorem dX10_seal_188 : decode cX10_seal 188 = .ok (.aload_n 0, 1) := by decide +kernel
theorem dX10_seal_189 : decode cX10_seal 189 = .ok (.getfield 181, 3) := by decide +kernel
theorem dX10_seal_192 : decode cX10_seal 192 = .ok (.iconst 1, 1) := by decide +kernel
theorem dX10_seal_193 : decode cX10_seal 193 = .ok (.isub, 1) := by decide +kernel
theorem dX10_seal_194 : decode cX10_seal 194 = .ok (.ireturn, 1) := by decide +kernel
theorem dX10_open_0 : decode cX10_open 0 = .ok (.aload_n 0, 1) := by decide +kernel
theorem dX10_open_1 : decode cX10_open 1 = .ok (.iload_n 1, 1) := by decide +kernel
theorem dX10_open_2 : decode cX10_open 2 = .ok (.invokevirtual 203, 3) := by decide +kernel
theorem dX10_open_5 : decode cX10_open 5 = .ok (.ifCond .eq 5, 3) := by decide +kernel
theorem dX10_open_8 : decode cX10_open 8 = .ok (.iconst (-1), 1) := by decide +kernel
theorem dX10_open_9 : decode cX10_open 9 = .ok (.ireturn, 1) := by decide +kernel
theorem dX10_open_10 : decode cX10_open 10 = .ok (.aload_n 0, 1) := by decide +kernel
theorem dX10_open_11 : decode cX10_open 11 = .ok (.getfield 78, 3) := by decide +kernel
theorem dX10_open_14 : decode cX10_open 14 = .ok (.iload_n 1, 1) := by decide +kernel
theorem dX10_open_15 : decode cX10_open 15 = .ok (.baload, 1) := by decide +kernel
theorem dX10_open_16 : decode cX10_open 16 = .ok (.ifCond .eq 7, 3) := by decide +kernel
theorem dX10_open_19 : decode cX10_open 19 = .ok (.iconst 0, 1) := by decide +kernel
theorem dX10_open_20 : decode cX10_open 20 = .ok (.goto 4, 3) := by decide +kernel
theorem dX10_open_23 : decode cX10_open 23 = .ok (.iconst 1, 1) := by decide +kernel
theorem dX10_open_24 : decode cX10_open 24 = .ok (.istore_n 2, 1) := by decide +kernel
theorem dX10_open_25 : decode cX10_open 25 = .ok (.aload_n 0, 1) := by decide +kernel
theorem dX10_open_26 : decode cX10_open 26 = .ok (.getfield 78, 3) := by decide +kernel
theorem dX10_open_29 : decode cX10_open 29 = .ok (.iload_n 1, 1) := by decide +kernel
theorem dX10_open_30 : decode cX10_open 30 = .ok (.iconst 1, 1) := by decide +kernel
theorem dX10_open_31 : decode cX10_open 31 = .ok (.bastore, 1) := by decide +kernel
theorem dX10_open_32 : decode cX10_open 32 = .ok (.iload_n 2, 1) := by decide +kernel
theorem dX10_open_33 : decode cX10_open 33 = .ok (.ireturn, 1) := by decide +kernel
theorem dX10_sealHolds_0 : decode cX10_sealHolds 0 = .ok (.aload_n 0, 1) := by decide +kernel
theorem dX10_sealHolds_1 : decode cX10_sealHolds 1 = .ok (.getfield 78, 3) := by decide +kernel
theorem dX10_sealHolds_4 : decode cX10_sealHolds 4 = .ok (.iload_n 1, 1) := by decide +kernel
theorem dX10_sealHolds_5 : decode cX10_sealHolds 5 = .ok (.baload, 1) := by decide +kernel
theorem dX10_sealHolds_6 : decode cX10_sealHolds 6 = .ok (.ifCond .eq 5, 3) := by decide +kernel
theorem dX10_sealHolds_9 : decode cX10_sealHolds 9 = .ok (.iconst 0, 1) := by decide +kernel
theorem dX10_sealHolds_10 : decode cX10_sealHolds 10 = .ok (.ireturn, 1) := by decide +kernel
theorem dX10_sealHolds_11 : decode cX10_sealHolds 11 = .ok (.aload_n 0, 1) := by decide +kernel
theorem dX10_sealHolds_12 : decode cX10_sealHolds 12 = .ok (.aload_n 0, 1) := by decide +kernel
theorem dX10_sealHolds_13 : decode cX10_sealHolds 13 = .ok (.getfield 72, 3) := by decide +kernel
theorem dX10_sealHolds_16 : decode cX10_sealHolds 16 = .ok (.iload_n 1, 1) := by decide +kernel
theorem dX10_sealHolds_17 : decode cX10_sealHolds 17 = .ok (.iaload, 1) := by decide +kernel
theorem dX10_sealHolds_18 : decode cX10_sealHolds 18 = .ok (.invokevirtual 191, 3) := by decide +kernel
theorem dX10_sealHolds_21 : decode cX10_sealHolds 21 = .ok (.iconst 1, 1) := by decide +kernel
theorem dX10_sealHolds_22 : decode cX10_sealHolds 22 = .ok (.istore_n 2, 1) := by decide +kernel
theorem dX10_sealHolds_23 : decode cX10_sealHolds 23 = .ok (.iconst 0, 1) := by decide +kernel
theorem dX10_sealHolds_24 : decode cX10_sealHolds 24 = .ok (.istore_n 3, 1) := by decide +kernel
theorem dX10_sealHolds_25 : decode cX10_sealHolds 25 = .ok (.iload_n 3, 1) := by decide +kernel
theorem dX10_sealHolds_26 : decode cX10_sealHolds 26 = .ok (.aload_n 0, 1) := by decide +kernel
theorem dX10_sealHolds_27 : decode cX10_sealHolds 27 = .ok (.getfield 95, 3) := by decide +kernel
theorem dX10_sealHolds_30 : decode cX10_sealHolds 30 = .ok (.if_icmp .ge 51, 3) := by decide +kernel
theorem dX10_sealHolds_33 : decode cX10_sealHolds 33 = .ok (.iload_n 2, 1) := by decide +kernel
theorem dX10_sealHolds_34 : decode cX10_sealHolds 34 = .ok (.ifCond .eq 39, 3) := by decide +kernel
theorem dX10_sealHolds_37 : decode cX10_sealHolds 37 = .ok (.aload_n 0, 1) := by decide +kernel
theorem dX10_sealHolds_38 : decode cX10_sealHolds 38 = .ok (.getfield 75, 3) := by decide +kernel
theorem dX10_sealHolds_41 : decode cX10_sealHolds 41 = .ok (.iload_n 1, 1) := by decide +kernel
theorem dX10_sealHolds_42 : decode cX10_sealHolds 42 = .ok (.iaload, 1) := by decide +kernel
theorem dX10_sealHolds_43 : decode cX10_sealHolds 43 = .ok (.iload_n 3, 1) := by decide +kernel
theorem dX10_sealHolds_44 : decode cX10_sealHolds 44 = .ok (.ishr, 1) := by decide +kernel
theorem dX10_sealHolds_45 : decode cX10_sealHolds 45 = .ok (.iconst 1, 1) := by decide +kernel
theorem dX10_sealHolds_46 : decode cX10_sealHolds 46 = .ok (.iand, 1) := by decide +kernel
theorem dX10_sealHolds_47 : decode cX10_sealHolds 47 = .ok (.ifCond .eq 22, 3) := by decide +kernel
theorem dX10_sealHolds_50 : decode cX10_sealHolds 50 = .ok (.aload_n 0, 1) := by decide +kernel
theorem dX10_sealHolds_51 : decode cX10_sealHolds 51 = .ok (.iload_n 3, 1) := by decide +kernel
theorem dX10_sealHolds_52 : decode cX10_sealHolds 52 = .ok (.invokevirtual 194, 3) := by decide +kernel
theorem dX10_sealHolds_55 : decode cX10_sealHolds 55 = .ok (.aload_n 0, 1) := by decide +kernel
theorem dX10_sealHolds_56 : decode cX10_sealHolds 56 = .ok (.getfield 84, 3) := by decide +kernel
theorem dX10_sealHolds_59 : decode cX10_sealHolds 59 = .ok (.bipush 12, 2) := by decide +kernel
theorem dX10_sealHolds_61 : decode cX10_sealHolds 61 = .ok (.iload_n 1, 1) := by decide +kernel
theorem dX10_sealHolds_62 : decode cX10_sealHolds 62 = .ok (.imul, 1) := by decide +kernel
theorem dX10_sealHolds_63 : decode cX10_sealHolds 63 = .ok (.iload_n 3, 1) := by decide +kernel
theorem dX10_sealHolds_64 : decode cX10_sealHolds 64 = .ok (.iadd, 1) := by decide +kernel
theorem dX10_sealHolds_65 : decode cX10_sealHolds 65 = .ok (.iaload, 1) := by decide +kernel
theorem dX10_sealHolds_66 : decode cX10_sealHolds 66 = .ok (.if_icmp .ne 7, 3) := by decide +kernel
theorem dX10_sealHolds_69 : decode cX10_sealHolds 69 = .ok (.iconst 1, 1) := by decide +kernel
theorem dX10_sealHolds_70 : decode cX10_sealHolds 70 = .ok (.goto 4, 3) := by decide +kernel
theorem dX10_sealHolds_73 : decode cX10_sealHolds 73 = .ok (.iconst 0, 1) := by decide +kernel
theorem dX10_sealHolds_74 : decode cX10_sealHolds 74 = .ok (.istore_n 2, 1) := by decide +kernel
theorem dX10_sealHolds_75 : decode cX10_sealHolds 75 = .ok (.iinc 3 1, 3) := by decide +kernel
theorem dX10_sealHolds_78 : decode cX10_sealHolds 78 = .ok (.goto (-53), 3) := by decide +kernel
theorem dX10_sealHolds_81 : decode cX10_sealHolds 81 = .ok (.iload_n 2, 1) := by decide +kernel
theorem dX10_sealHolds_82 : decode cX10_sealHolds 82 = .ok (.ireturn, 1) := by decide +kernel
theorem dX10_sealed_0 : decode cX10_sealed 0 = .ok (.aload_n 0, 1) := by decide +kernel
theorem dX10_sealed_1 : decode cX10_sealed 1 = .ok (.iload_n 1, 1) := by decide +kernel
theorem dX10_sealed_2 : decode cX10_sealed 2 = .ok (.invokevirtual 203, 3) := by decide +kernel
theorem dX10_sealed_5 : decode cX10_sealed 5 = .ok (.ifCond .eq 5, 3) := by decide +kernel
theorem dX10_sealed_8 : decode cX10_sealed 8 = .ok (.iconst (-1), 1) := by decide +kernel
theorem dX10_sealed_9 : decode cX10_sealed 9 = .ok (.ireturn, 1) := by decide +kernel
theorem dX10_sealed_10 : decode cX10_sealed 10 = .ok (.iload_n 2, 1) := by decide +kernel
theorem dX10_sealed_11 : decode cX10_sealed 11 = .ok (.bipush 10, 2) := by decide +kernel
theorem dX10_sealed_13 : decode cX10_sealed 13 = .ok (.bipush 9, 2) := by decide +kernel
theorem dX10_sealed_15 : decode cX10_sealed 15 = .ok (.aload_n 0, 1) := by decide +kernel
theorem dX10_sealed_16 : decode cX10_sealed 16 = .ok (.getfield 95, 3) := by decide +kernel
theorem dX10_sealed_19 : decode cX10_sealed 19 = .ok (.iadd, 1) := by decide +kernel
theorem dX10_sealed_20 : decode cX10_sealed 20 = .ok (.invokestatic 99, 3) := by decide +kernel
theorem dX10_sealed_23 : decode cX10_sealed 23 = .ok (.ifCond .eq 18, 3) := by decide +kernel
theorem dX10_sealed_26 : decode cX10_sealed 26 = .ok (.aload_n 0, 1) := by decide +kernel
theorem dX10_sealed_27 : decode cX10_sealed 27 = .ok (.getfield 81, 3) := by decide +kernel
theorem dX10_sealed_30 : decode cX10_sealed 30 = .ok (.bipush 12, 2) := by decide +kernel
theorem dX10_sealed_32 : decode cX10_sealed 32 = .ok (.iload_n 1, 1) := by decide +kernel
theorem dX10_sealed_33 : decode cX10_sealed 33 = .ok (.imul, 1) := by decide +kernel
theorem dX10_sealed_34 : decode cX10_sealed 34 = .ok (.iload_n 2, 1) := by decide +kernel
theorem dX10_sealed_35 : decode cX10_sealed 35 = .ok (.iadd, 1) := by decide +kernel
theorem dX10_sealed_36 : decode cX10_sealed 36 = .ok (.bipush 10, 2) := by decide +kernel
theorem dX10_sealed_38 : decode cX10_sealed 38 = .ok (.isub, 1) := by decide +kernel
theorem dX10_sealed_39 : decode cX10_sealed 39 = .ok (.iaload, 1) := by decide +kernel
theorem dX10_sealed_40 : decode cX10_sealed 40 = .ok (.ireturn, 1) := by decide +kernel
theorem dX10_sealed_41 : decode cX10_sealed 41 = .ok (.iload_n 2, 1) := by decide +kernel
theorem dX10_sealed_42 : decode cX10_sealed 42 = .ok (.bipush 30, 2) := by decide +kernel
theorem dX10_sealed_44 : decode cX10_sealed 44 = .ok (.bipush 29, 2) := by decide +kernel
theorem dX10_sealed_46 : decode cX10_sealed 46 = .ok (.aload_n 0, 1) := by decide +kernel
theorem dX10_sealed_47 : decode cX10_sealed 47 = .ok (.getfield 95, 3) := by decide +kernel
theorem dX10_sealed_50 : decode cX10_sealed 50 = .ok (.iadd, 1) := by decide +kernel
theorem dX10_sealed_51 : decode cX10_sealed 51 = .ok (.invokestatic 99, 3) := by decide +kernel
theorem dX10_sealed_54 : decode cX10_sealed 54 = .ok (.ifCond .eq 18, 3) := by decide +kernel
theorem dX10_sealed_57 : decode cX10_sealed 57 = .ok (.aload_n 0, 1) := by decide +kernel
theorem dX10_sealed_58 : decode cX10_sealed 58 = .ok (.getfield 84, 3) := by decide +kernel
theorem dX10_sealed_61 : decode cX10_sealed 61 = .ok (.bipush 12, 2) := by decide +kernel
theorem dX10_sealed_63 : decode cX10_sealed 63 = .ok (.iload_n 1, 1) := by decide +kernel
theorem dX10_sealed_64 : decode cX10_sealed 64 = .ok (.imul, 1) := by decide +kernel
theorem dX10_sealed_65 : decode cX10_sealed 65 = .ok (.iload_n 2, 1) := by decide +kernel
theorem dX10_sealed_66 : decode cX10_sealed 66 = .ok (.iadd, 1) := by decide +kernel
theorem dX10_sealed_67 : decode cX10_sealed 67 = .ok (.bipush 30, 2) := by decide +kernel
theorem dX10_sealed_69 : decode cX10_sealed 69 = .ok (.isub, 1) := by decide +kernel
theorem dX10_sealed_70 : decode cX10_sealed 70 = .ok (.iaload, 1) := by decide +kernel
theorem dX10_sealed_71 : decode cX10_sealed 71 = .ok (.ireturn, 1) := by decide +kernel
theorem dX10_sealed_72 : decode cX10_sealed 72 = .ok (.iload_n 2, 1) := by decide +kernel
theorem dX10_sealed_73 : decode cX10_sealed 73 = .ok (.tableswitch 74 0 3 #[31, 38, 45, 60], 31) := by decide +kernel
theorem dX10_sealed_104 : decode cX10_sealed 104 = .ok (.aload_n 0, 1) := by decide +kernel
theorem dX10_sealed_105 : decode cX10_sealed 105 = .ok (.getfield 72, 3) := by decide +kernel
theorem dX10_sealed_108 : decode cX10_sealed 108 = .ok (.iload_n 1, 1) := by decide +kernel
theorem dX10_sealed_109 : decode cX10_sealed 109 = .ok (.iaload, 1) := by decide +kernel
theorem dX10_sealed_110 : decode cX10_sealed 110 = .ok (.ireturn, 1) := by decide +kernel
theorem dX10_sealed_111 : decode cX10_sealed 111 = .ok (.aload_n 0, 1) := by decide +kernel
theorem dX10_sealed_112 : decode cX10_sealed 112 = .ok (.getfield 75, 3) := by decide +kernel
theorem dX10_sealed_115 : decode cX10_sealed 115 = .ok (.iload_n 1, 1) := by decide +kernel
theorem dX10_sealed_116 : decode cX10_sealed 116 = .ok (.iaload, 1) := by decide +kernel
theorem dX10_sealed_117 : decode cX10_sealed 117 = .ok (.ireturn, 1) := by decide +kernel
theorem dX10_sealed_118 : decode cX10_sealed 118 = .ok (.aload_n 0, 1) := by decide +kernel
theorem dX10_sealed_119 : decode cX10_sealed 119 = .ok (.getfield 78, 3) := by decide +kernel
theorem dX10_sealed_122 : decode cX10_sealed 122 = .ok (.iload_n 1, 1) := by decide +kernel
theorem dX10_sealed_123 : decode cX10_sealed 123 = .ok (.baload, 1) := by decide +kernel
theorem dX10_sealed_124 : decode cX10_sealed 124 = .ok (.ifCond .eq 7, 3) := by decide +kernel
theorem dX10_sealed_127 : decode cX10_sealed 127 = .ok (.iconst 1, 1) := by decide +kernel
theorem dX10_sealed_128 : decode cX10_sealed 128 = .ok (.goto 4, 3) := by decide +kernel
theorem dX10_sealed_131 : decode cX10_sealed 131 = .ok (.iconst 0, 1) := by decide +kernel
theorem dX10_sealed_132 : decode cX10_sealed 132 = .ok (.ireturn, 1) := by decide +kernel
theorem dX10_sealed_133 : decode cX10_sealed 133 = .ok (.aload_n 0, 1) := by decide +kernel
theorem dX10_sealed_134 : decode cX10_sealed 134 = .ok (.iload_n 1, 1) := by decide +kernel
theorem dX10_sealed_135 : decode cX10_sealed 135 = .ok (.invokevirtual 206, 3) := by decide +kernel
theorem dX10_sealed_138 : decode cX10_sealed 138 = .ok (.ifCond .eq 7, 3) := by decide +kernel
theorem dX10_sealed_141 : decode cX10_sealed 141 = .ok (.iconst 1, 1) := by decide +kernel
theorem dX10_sealed_142 : decode cX10_sealed 142 = .ok (.goto 4, 3) := by decide +kernel
theorem dX10_sealed_145 : decode cX10_sealed 145 = .ok (.iconst 0, 1) := by decide +kernel
theorem dX10_sealed_146 : decode cX10_sealed 146 = .ok (.ireturn, 1) := by decide +kernel
theorem dX10_sealed_147 : decode cX10_sealed 147 = .ok (.bipush (-2), 2) := by decide +kernel
theorem dX10_sealed_149 : decode cX10_sealed 149 = .ok (.ireturn, 1) := by decide +kernel
theorem dX10_goesOn_0 : decode cX10_goesOn 0 = .ok (.aload_n 0, 1) := by decide +kernel
theorem dX10_goesOn_1 : decode cX10_goesOn 1 = .ok (.getfield 95, 3) := by decide +kernel
theorem dX10_goesOn_4 : decode cX10_goesOn 4 = .ok (.iconst 1, 1) := by decide +kernel
theorem dX10_goesOn_5 : decode cX10_goesOn 5 = .ok (.isub, 1) := by decide +kernel
theorem dX10_goesOn_6 : decode cX10_goesOn 6 = .ok (.istore_n 2, 1) := by decide +kernel
theorem dX10_goesOn_7 : decode cX10_goesOn 7 = .ok (.iload_n 2, 1) := by decide +kernel
theorem dX10_goesOn_8 : decode cX10_goesOn 8 = .ok (.ifCond .lt 74, 3) := by decide +kernel
theorem dX10_goesOn_11 : decode cX10_goesOn 11 = .ok (.iload_n 1, 1) := by decide +kernel
theorem dX10_goesOn_12 : decode cX10_goesOn 12 = .ok (.iload_n 2, 1) := by decide +kernel
theorem dX10_goesOn_13 : decode cX10_goesOn 13 = .ok (.ishr, 1) := by decide +kernel
theorem dX10_goesOn_14 : decode cX10_goesOn 14 = .ok (.iconst 1, 1) := by decide +kernel
theorem dX10_goesOn_15 : decode cX10_goesOn 15 = .ok (.iand, 1) := by decide +kernel
theorem dX10_goesOn_16 : decode cX10_goesOn 16 = .ok (.iconst 1, 1) := by decide +kernel
theorem dX10_goesOn_17 : decode cX10_goesOn 17 = .ok (.if_icmp .ne 59, 3) := by decide +kernel
theorem dX10_goesOn_20 : decode cX10_goesOn 20 = .ok (.aload_n 0, 1) := by decide +kernel
theorem dX10_goesOn_21 : decode cX10_goesOn 21 = .ok (.getfield 50, 3) := by decide +kernel
theorem dX10_goesOn_24 : decode cX10_goesOn 24 = .ok (.iload_n 2, 1) := by decide +kernel
theorem dX10_goesOn_25 : decode cX10_goesOn 25 = .ok (.iaload, 1) := by decide +kernel
theorem dX10_goesOn_26 : decode cX10_goesOn 26 = .ok (.ldc 90, 2) := by decide +kernel
theorem dX10_goesOn_28 : decode cX10_goesOn 28 = .ok (.if_icmp .ne 12, 3) := by decide +kernel
theorem dX10_goesOn_31 : decode cX10_goesOn 31 = .ok (.aload_n 0, 1) := by decide +kernel
theorem dX10_goesOn_32 : decode cX10_goesOn 32 = .ok (.getfield 7, 3) := by decide +kernel
theorem dX10_goesOn_35 : decode cX10_goesOn 35 = .ok (.iload_n 2, 1) := by decide +kernel
theorem dX10_goesOn_36 : decode cX10_goesOn 36 = .ok (.iaload, 1) := by decide +kernel
theorem dX10_goesOn_37 : decode cX10_goesOn 37 = .ok (.goto 11, 3) := by decide +kernel
theorem dX10_goesOn_40 : decode cX10_goesOn 40 = .ok (.aload_n 0, 1) := by decide +kernel
theorem dX10_goesOn_41 : decode cX10_goesOn 41 = .ok (.getfield 50, 3) := by decide +kernel
theorem dX10_goesOn_44 : decode cX10_goesOn 44 = .ok (.iload_n 2, 1) := by decide +kernel
theorem dX10_goesOn_45 : decode cX10_goesOn 45 = .ok (.iaload, 1) := by decide +kernel
theorem dX10_goesOn_46 : decode cX10_goesOn 46 = .ok (.iconst 1, 1) := by decide +kernel
theorem dX10_goesOn_47 : decode cX10_goesOn 47 = .ok (.iadd, 1) := by decide +kernel
theorem dX10_goesOn_48 : decode cX10_goesOn 48 = .ok (.istore_n 3, 1) := by decide +kernel
theorem dX10_goesOn_49 : decode cX10_goesOn 49 = .ok (.iload_n 3, 1) := by decide +kernel
theorem dX10_goesOn_50 : decode cX10_goesOn 50 = .ok (.aload_n 0, 1) := by decide +kernel
theorem dX10_goesOn_51 : decode cX10_goesOn 51 = .ok (.getfield 13, 3) := by decide +kernel
theorem dX10_goesOn_54 : decode cX10_goesOn 54 = .ok (.iload_n 2, 1) := by decide +kernel
theorem dX10_goesOn_55 : decode cX10_goesOn 55 = .ok (.iaload, 1) := by decide +kernel
theorem dX10_goesOn_56 : decode cX10_goesOn 56 = .ok (.if_icmp .gt 12, 3) := by decide +kernel
theorem dX10_goesOn_59 : decode cX10_goesOn 59 = .ok (.aload_n 0, 1) := by decide +kernel
theorem dX10_goesOn_60 : decode cX10_goesOn 60 = .ok (.getfield 50, 3) := by decide +kernel
theorem dX10_goesOn_63 : decode cX10_goesOn 63 = .ok (.iload_n 2, 1) := by decide +kernel
theorem dX10_goesOn_64 : decode cX10_goesOn 64 = .ok (.iload_n 3, 1) := by decide +kernel
theorem dX10_goesOn_65 : decode cX10_goesOn 65 = .ok (.iastore, 1) := by decide +kernel
theorem dX10_goesOn_66 : decode cX10_goesOn 66 = .ok (.iconst 1, 1) := by decide +kernel
theorem dX10_goesOn_67 : decode cX10_goesOn 67 = .ok (.ireturn, 1) := by decide +kernel
theorem dX10_goesOn_68 : decode cX10_goesOn 68 = .ok (.aload_n 0, 1) := by decide +kernel
theorem dX10_goesOn_69 : decode cX10_goesOn 69 = .ok (.getfield 50, 3) := by decide +kernel
theorem dX10_goesOn_72 : decode cX10_goesOn 72 = .ok (.iload_n 2, 1) := by decide +kernel
theorem dX10_goesOn_73 : decode cX10_goesOn 73 = .ok (.ldc 90, 2) := by decide +kernel
theorem dX10_goesOn_75 : decode cX10_goesOn 75 = .ok (.iastore, 1) := by decide +kernel
theorem dX10_goesOn_76 : decode cX10_goesOn 76 = .ok (.iinc 2 (-1), 3) := by decide +kernel
theorem dX10_goesOn_79 : decode cX10_goesOn 79 = .ok (.goto (-72), 3) := by decide +kernel
theorem dX10_goesOn_82 : decode cX10_goesOn 82 = .ok (.iconst 0, 1) := by decide +kernel
theorem dX10_goesOn_83 : decode cX10_goesOn 83 = .ok (.ireturn, 1) := by decide +kernel
theorem dX10_shows_0 : decode cX10_shows 0 = .ok (.iconst 0, 1) := by decide +kernel
theorem dX10_shows_1 : decode cX10_shows 1 = .ok (.istore_n 2, 1) := by decide +kernel
theorem dX10_shows_2 : decode cX10_shows 2 = .ok (.iload_n 2, 1) := by decide +kernel
theorem dX10_shows_3 : decode cX10_shows 3 = .ok (.aload_n 0, 1) := by decide +kernel
theorem dX10_shows_4 : decode cX10_shows 4 = .ok (.getfield 95, 3) := by decide +kernel
theorem dX10_shows_7 : decode cX10_shows 7 = .ok (.if_icmp .ge 35, 3) := by decide +kernel
theorem dX10_shows_10 : decode cX10_shows 10 = .ok (.aload_n 0, 1) := by decide +kernel
theorem dX10_shows_11 : decode cX10_shows 11 = .ok (.getfield 44, 3) := by decide +kernel
theorem dX10_shows_14 : decode cX10_shows 14 = .ok (.iload_n 2, 1) := by decide +kernel
theorem dX10_shows_15 : decode cX10_shows 15 = .ok (.iaload, 1) := by decide +kernel
theorem dX10_shows_16 : decode cX10_shows 16 = .ok (.istore_n 3, 1) := by decide +kernel
theorem dX10_shows_17 : decode cX10_shows 17 = .ok (.aload_n 0, 1) := by decide +kernel
theorem dX10_shows_18 : decode cX10_shows 18 = .ok (.getfield 37, 3) := by decide +kernel
theorem dX10_shows_21 : decode cX10_shows 21 = .ok (.iload_n 1, 1) := by decide +kernel
theorem dX10_shows_22 : decode cX10_shows 22 = .ok (.iaload, 1) := by decide +kernel
theorem dX10_shows_23 : decode cX10_shows 23 = .ok (.iload_n 3, 1) := by decide +kernel
theorem dX10_shows_24 : decode cX10_shows 24 = .ok (.ishr, 1) := by decide +kernel
theorem dX10_shows_25 : decode cX10_shows 25 = .ok (.iconst 1, 1) := by decide +kernel
theorem dX10_shows_26 : decode cX10_shows 26 = .ok (.iand, 1) := by decide +kernel
theorem dX10_shows_27 : decode cX10_shows 27 = .ok (.iconst 1, 1) := by decide +kernel
theorem dX10_shows_28 : decode cX10_shows 28 = .ok (.if_icmp .ne 8, 3) := by decide +kernel
theorem dX10_shows_31 : decode cX10_shows 31 = .ok (.aload_n 0, 1) := by decide +kernel
theorem dX10_shows_32 : decode cX10_shows 32 = .ok (.iload_n 3, 1) := by decide +kernel
theorem dX10_shows_33 : decode cX10_shows 33 = .ok (.invokevirtual 176, 3) := by decide +kernel
theorem dX10_shows_36 : decode cX10_shows 36 = .ok (.iinc 2 1, 3) := by decide +kernel
theorem dX10_shows_39 : decode cX10_shows 39 = .ok (.goto (-37), 3) := by decide +kernel
theorem dX10_shows_42 : decode cX10_shows 42 = .ok (.aload_n 0, 1) := by decide +kernel
theorem dX10_shows_43 : decode cX10_shows 43 = .ok (.iload_n 1, 1) := by decide +kernel
theorem dX10_shows_44 : decode cX10_shows 44 = .ok (.invokevirtual 176, 3) := by decide +kernel
theorem dX10_shows_47 : decode cX10_shows 47 = .ok (.aload_n 0, 1) := by decide +kernel
theorem dX10_shows_48 : decode cX10_shows 48 = .ok (.getfield 53, 3) := by decide +kernel
theorem dX10_shows_51 : decode cX10_shows 51 = .ok (.iload_n 1, 1) := by decide +kernel
theorem dX10_shows_52 : decode cX10_shows 52 = .ok (.baload, 1) := by decide +kernel
theorem dX10_shows_53 : decode cX10_shows 53 = .ok (.ireturn, 1) := by decide +kernel
theorem dX10_reach_0 : decode cX10_reach 0 = .ok (.aload_n 0, 1) := by decide +kernel
theorem dX10_reach_1 : decode cX10_reach 1 = .ok (.iload_n 1, 1) := by decide +kernel
theorem dX10_reach_2 : decode cX10_reach 2 = .ok (.invokevirtual 114, 3) := by decide +kernel
theorem dX10_reach_5 : decode cX10_reach 5 = .ok (.ifCond .eq 5, 3) := by decide +kernel
theorem dX10_reach_8 : decode cX10_reach 8 = .ok (.iconst (-1), 1) := by decide +kernel
theorem dX10_reach_9 : decode cX10_reach 9 = .ok (.ireturn, 1) := by decide +kernel
theorem dX10_reach_10 : decode cX10_reach 10 = .ok (.aload_n 0, 1) := by decide +kernel
theorem dX10_reach_11 : decode cX10_reach 11 = .ok (.invokevirtual 149, 3) := by decide +kernel
theorem dX10_reach_14 : decode cX10_reach 14 = .ok (.iconst 0, 1) := by decide +kernel
theorem dX10_reach_15 : decode cX10_reach 15 = .ok (.istore_n 2, 1) := by decide +kernel
theorem dX10_reach_16 : decode cX10_reach 16 = .ok (.lconst 1, 1) := by decide +kernel
theorem dX10_reach_17 : decode cX10_reach 17 = .ok (.lstore_n 3, 1) := by decide +kernel
theorem dX10_reach_18 : decode cX10_reach 18 = .ok (.iconst 0, 1) := by decide +kernel
theorem dX10_reach_19 : decode cX10_reach 19 = .ok (.istore 5, 2) := by decide +kernel
theorem dX10_reach_21 : decode cX10_reach 21 = .ok (.iload 5, 2) := by decide +kernel
theorem dX10_reach_23 : decode cX10_reach 23 = .ok (.aload_n 0, 1) := by decide +kernel
theorem dX10_reach_24 : decode cX10_reach 24 = .ok (.getfield 95, 3) := by decide +kernel
theorem dX10_reach_27 : decode cX10_reach 27 = .ok (.if_icmp .ge 76, 3) := by decide +kernel
theorem dX10_reach_30 : decode cX10_reach 30 = .ok (.aload_n 0, 1) := by decide +kernel
theorem dX10_reach_31 : decode cX10_reach 31 = .ok (.getfield 37, 3) := by decide +kernel
theorem dX10_reach_34 : decode cX10_reach 34 = .ok (.iload_n 1, 1) := by decide +kernel
theorem dX10_reach_35 : decode cX10_reach 35 = .ok (.iaload, 1) := by decide +kernel
theorem dX10_reach_36 : decode cX10_reach 36 = .ok (.iload 5, 2) := by decide +kernel
theorem dX10_reach_38 : decode cX10_reach 38 = .ok (.ishr, 1) := by decide +kernel
theorem dX10_reach_39 : decode cX10_reach 39 = .ok (.iconst 1, 1) := by decide +kernel
theorem dX10_reach_40 : decode cX10_reach 40 = .ok (.iand, 1) := by decide +kernel
theorem dX10_reach_41 : decode cX10_reach 41 = .ok (.iconst 1, 1) := by decide +kernel
theorem dX10_reach_42 : decode cX10_reach 42 = .ok (.if_icmp .ne 55, 3) := by decide +kernel
theorem dX10_reach_45 : decode cX10_reach 45 = .ok (.aload_n 0, 1) := by decide +kernel
theorem dX10_reach_46 : decode cX10_reach 46 = .ok (.getfield 16, 3) := by decide +kernel
theorem dX10_reach_49 : decode cX10_reach 49 = .ok (.iload 5, 2) := by decide +kernel
theorem dX10_reach_51 : decode cX10_reach 51 = .ok (.iaload, 1) := by decide +kernel
theorem dX10_reach_52 : decode cX10_reach 52 = .ok (.ifCond .ne 45, 3) := by decide +kernel
theorem dX10_reach_55 : decode cX10_reach 55 = .ok (.iload_n 2, 1) := by decide +kernel
theorem dX10_reach_56 : decode cX10_reach 56 = .ok (.iconst 1, 1) := by decide +kernel
theorem dX10_reach_57 : decode cX10_reach 57 = .ok (.iload 5, 2) := by decide +kernel
theorem dX10_reach_59 : decode cX10_reach 59 = .ok (.ishl, 1) := by decide +kernel
theorem dX10_reach_60 : decode cX10_reach 60 = .ok (.ior, 1) := by decide +kernel
theorem dX10_reach_61 : decode cX10_reach 61 = .ok (.istore_n 2, 1) := by decide +kernel
theorem dX10_reach_62 : decode cX10_reach 62 = .ok (.lload_n 3, 1) := by decide +kernel
theorem dX10_reach_63 : decode cX10_reach 63 = .ok (.ldc2_w 209, 3) := by decide +kernel
theorem dX10_reach_66 : decode cX10_reach 66 = .ok (.lcmp, 1) := by decide +kernel
theorem dX10_reach_67 : decode cX10_reach 67 = .ok (.ifCond .le 7, 3) := by decide +kernel
theorem dX10_reach_70 : decode cX10_reach 70 = .ok (.lload_n 3, 1) := by decide +kernel
theorem dX10_reach_71 : decode cX10_reach 71 = .ok (.goto 25, 3) := by decide +kernel
theorem dX10_reach_74 : decode cX10_reach 74 = .ok (.lload_n 3, 1) := by decide +kernel
theorem dX10_reach_75 : decode cX10_reach 75 = .ok (.aload_n 0, 1) := by decide +kernel
theorem dX10_reach_76 : decode cX10_reach 76 = .ok (.getfield 13, 3) := by decide +kernel
theorem dX10_reach_79 : decode cX10_reach 79 = .ok (.iload 5, 2) := by decide +kernel
theorem dX10_reach_81 : decode cX10_reach 81 = .ok (.iaload, 1) := by decide +kernel
theorem dX10_reach_82 : decode cX10_reach 82 = .ok (.aload_n 0, 1) := by decide +kernel
theorem dX10_reach_83 : decode cX10_reach 83 = .ok (.getfield 7, 3) := by decide +kernel
theorem dX10_reach_86 : decode cX10_reach 86 = .ok (.iload 5, 2) := by decide +kernel
theorem dX10_reach_88 : decode cX10_reach 88 = .ok (.iaload, 1) := by decide +kernel
theorem dX10_reach_89 : decode cX10_reach 89 = .ok (.isub, 1) := by decide +kernel
theorem dX10_reach_90 : decode cX10_reach 90 = .ok (.i2l, 1) := by decide +kernel
theorem dX10_reach_91 : decode cX10_reach 91 = .ok (.ldc2_w 211, 3) := by decide +kernel
theorem dX10_reach_94 : decode cX10_reach 94 = .ok (.ladd, 1) := by decide +kernel
theorem dX10_reach_95 : decode cX10_reach 95 = .ok (.lmul, 1) := by decide +kernel
theorem dX10_reach_96 : decode cX10_reach 96 = .ok (.lstore_n 3, 1) := by decide +kernel
theorem dX10_reach_97 : decode cX10_reach 97 = .ok (.iinc 5 1, 3) := by decide +kernel
theorem dX10_reach_100 : decode cX10_reach 100 = .ok (.goto (-79), 3) := by decide +kernel
theorem dX10_reach_103 : decode cX10_reach 103 = .ok (.lload_n 3, 1) := by decide +kernel
theorem dX10_reach_104 : decode cX10_reach 104 = .ok (.ldc2_w 209, 3) := by decide +kernel
theorem dX10_reach_107 : decode cX10_reach 107 = .ok (.lcmp, 1) := by decide +kernel
theorem dX10_reach_108 : decode cX10_reach 108 = .ok (.ifCond .le 6, 3) := by decide +kernel
theorem dX10_reach_111 : decode cX10_reach 111 = .ok (.bipush (-6), 2) := by decide +kernel
theorem dX10_reach_113 : decode cX10_reach 113 = .ok (.ireturn, 1) := by decide +kernel
theorem dX10_reach_114 : decode cX10_reach 114 = .ok (.iconst 0, 1) := by decide +kernel
theorem dX10_reach_115 : decode cX10_reach 115 = .ok (.istore 5, 2) := by decide +kernel
theorem dX10_reach_117 : decode cX10_reach 117 = .ok (.iload 5, 2) := by decide +kernel
theorem dX10_reach_119 : decode cX10_reach 119 = .ok (.bipush 12, 2) := by decide +kernel
theorem dX10_reach_121 : decode cX10_reach 121 = .ok (.if_icmp .ge 27, 3) := by decide +kernel
theorem dX10_reach_124 : decode cX10_reach 124 = .ok (.aload_n 0, 1) := by decide +kernel
theorem dX10_reach_125 : decode cX10_reach 125 = .ok (.getfield 50, 3) := by decide +kernel
theorem dX10_reach_128 : decode cX10_reach 128 = .ok (.iload 5, 2) := by decide +kernel
theorem dX10_reach_130 : decode cX10_reach 130 = .ok (.ldc 90, 2) := by decide +kernel
theorem dX10_reach_132 : decode cX10_reach 132 = .ok (.iastore, 1) := by decide +kernel
theorem dX10_reach_133 : decode cX10_reach 133 = .ok (.aload_n 0, 1) := by decide +kernel
theorem dX10_reach_134 : decode cX10_reach 134 = .ok (.getfield 60, 3) := by decide +kernel
theorem dX10_reach_137 : decode cX10_reach 137 = .ok (.iload 5, 2) := by decide +kernel
theorem dX10_reach_139 : decode cX10_reach 139 = .ok (.ldc 90, 2) := by decide +kernel
theorem dX10_reach_141 : decode cX10_reach 141 = .ok (.iastore, 1) := by decide +kernel
theorem dX10_reach_142 : decode cX10_reach 142 = .ok (.iinc 5 1, 3) := by decide +kernel
theorem dX10_reach_145 : decode cX10_reach 145 = .ok (.goto (-28), 3) := by decide +kernel
theorem dX10_reach_148 : decode cX10_reach 148 = .ok (.aload_n 0, 1) := by decide +kernel
theorem dX10_reach_149 : decode cX10_reach 149 = .ok (.iconst 1, 1) := by decide +kernel
theorem dX10_reach_150 : decode cX10_reach 150 = .ok (.putfield 213, 3) := by decide +kernel
theorem dX10_reach_153 : decode cX10_reach 153 = .ok (.aload_n 0, 1) := by decide +kernel
theorem dX10_reach_154 : decode cX10_reach 154 = .ok (.iload_n 1, 1) := by decide +kernel
theorem dX10_reach_155 : decode cX10_reach 155 = .ok (.invokevirtual 216, 3) := by decide +kernel
theorem dX10_reach_158 : decode cX10_reach 158 = .ok (.istore 5, 2) := by decide +kernel
theorem dX10_reach_160 : decode cX10_reach 160 = .ok (.iload 5, 2) := by decide +kernel
theorem dX10_reach_162 : decode cX10_reach 162 = .ok (.ifCond .ne 31, 3) := by decide +kernel
theorem dX10_reach_165 : decode cX10_reach 165 = .ok (.aload_n 0, 1) := by decide +kernel
theorem dX10_reach_166 : decode cX10_reach 166 = .ok (.iload_n 2, 1) := by decide +kernel
theorem dX10_reach_167 : decode cX10_reach 167 = .ok (.invokevirtual 219, 3) := by decide +kernel
theorem dX10_reach_170 : decode cX10_reach 170 = .ok (.ifCond .eq 23, 3) := by decide +kernel
theorem dX10_reach_173 : decode cX10_reach 173 = .ok (.aload_n 0, 1) := by decide +kernel
theorem dX10_reach_174 : decode cX10_reach 174 = .ok (.dup, 1) := by decide +kernel
theorem dX10_reach_175 : decode cX10_reach 175 = .ok (.getfield 213, 3) := by decide +kernel
theorem dX10_reach_178 : decode cX10_reach 178 = .ok (.iconst 1, 1) := by decide +kernel
theorem dX10_reach_179 : decode cX10_reach 179 = .ok (.iadd, 1) := by decide +kernel
theorem dX10_reach_180 : decode cX10_reach 180 = .ok (.putfield 213, 3) := by decide +kernel
theorem dX10_reach_183 : decode cX10_reach 183 = .ok (.aload_n 0, 1) := by decide +kernel
theorem dX10_reach_184 : decode cX10_reach 184 = .ok (.iload_n 1, 1) := by decide +kernel
theorem dX10_reach_185 : decode cX10_reach 185 = .ok (.invokevirtual 216, 3) := by decide +kernel
theorem dX10_reach_188 : decode cX10_reach 188 = .ok (.istore 5, 2) := by decide +kernel
theorem dX10_reach_190 : decode cX10_reach 190 = .ok (.goto (-30), 3) := by decide +kernel
theorem dX10_reach_193 : decode cX10_reach 193 = .ok (.iconst 0, 1) := by decide +kernel
theorem dX10_reach_194 : decode cX10_reach 194 = .ok (.istore 6, 2) := by decide +kernel
theorem dX10_reach_196 : decode cX10_reach 196 = .ok (.iload 6, 2) := by decide +kernel
theorem dX10_reach_198 : decode cX10_reach 198 = .ok (.bipush 12, 2) := by decide +kernel
theorem dX10_reach_200 : decode cX10_reach 200 = .ok (.if_icmp .ge 33, 3) := by decide +kernel
theorem dX10_reach_203 : decode cX10_reach 203 = .ok (.aload_n 0, 1) := by decide +kernel
theorem dX10_reach_204 : decode cX10_reach 204 = .ok (.getfield 87, 3) := by decide +kernel
theorem dX10_reach_207 : decode cX10_reach 207 = .ok (.iload 6, 2) := by decide +kernel
theorem dX10_reach_209 : decode cX10_reach 209 = .ok (.iload 5, 2) := by decide +kernel
theorem dX10_reach_211 : decode cX10_reach 211 = .ok (.ifCond .eq 13, 3) := by decide +kernel
theorem dX10_reach_214 : decode cX10_reach 214 = .ok (.aload_n 0, 1) := by decide +kernel
theorem dX10_reach_215 : decode cX10_reach 215 = .ok (.getfield 50, 3) := by decide +kernel
theorem dX10_reach_218 : decode cX10_reach 218 = .ok (.iload 6, 2) := by decide +kernel
theorem dX10_reach_220 : decode cX10_reach 220 = .ok (.iaload, 1) := by decide +kernel
theorem dX10_reach_221 : decode cX10_reach 221 = .ok (.goto 5, 3) := by decide +kernel
theorem dX10_reach_224 : decode cX10_reach 224 = .ok (.ldc 90, 2) := by decide +kernel
theorem dX10_reach_226 : decode cX10_reach 226 = .ok (.iastore, 1) := by decide +kernel
theorem dX10_reach_227 : decode cX10_reach 227 = .ok (.iinc 6 1, 3) := by decide +kernel
theorem dX10_reach_230 : decode cX10_reach 230 = .ok (.goto (-34), 3) := by decide +kernel
theorem dX10_reach_233 : decode cX10_reach 233 = .ok (.iload 5, 2) := by decide +kernel
theorem dX10_reach_235 : decode cX10_reach 235 = .ok (.ifCond .eq 7, 3) := by decide +kernel
theorem dX10_reach_238 : decode cX10_reach 238 = .ok (.iconst 1, 1) := by decide +kernel
theorem dX10_reach_239 : decode cX10_reach 239 = .ok (.goto 4, 3) := by decide +kernel
theorem dX10_reach_242 : decode cX10_reach 242 = .ok (.iconst 0, 1) := by decide +kernel
theorem dX10_reach_243 : decode cX10_reach 243 = .ok (.ireturn, 1) := by decide +kernel
theorem dX10_found_0 : decode cX10_found 0 = .ok (.aload_n 0, 1) := by decide +kernel
theorem dX10_found_1 : decode cX10_found 1 = .ok (.iload_n 1, 1) := by decide +kernel
theorem dX10_found_2 : decode cX10_found 2 = .ok (.invokevirtual 114, 3) := by decide +kernel
theorem dX10_found_5 : decode cX10_found 5 = .ok (.ifCond .eq 8, 3) := by decide +kernel
theorem dX10_found_8 : decode cX10_found 8 = .ok (.ldc 90, 2) := by decide +kernel
theorem dX10_found_10 : decode cX10_found 10 = .ok (.goto 9, 3) := by decide +kernel
theorem dX10_found_13 : decode cX10_found 13 = .ok (.aload_n 0, 1) := by decide +kernel
theorem dX10_found_14 : decode cX10_found 14 = .ok (.getfield 87, 3) := by decide +kernel
theorem dX10_found_17 : decode cX10_found 17 = .ok (.iload_n 1, 1) := by decide +kernel
theorem dX10_found_18 : decode cX10_found 18 = .ok (.iaload, 1) := by decide +kernel
theorem dX10_found_19 : decode cX10_found 19 = .ok (.ireturn, 1) := by decide +kernel
theorem dX10_tried_0 : decode cX10_tried 0 = .ok (.aload_n 0, 1) := by decide +kernel
theorem dX10_tried_1 : decode cX10_tried 1 = .ok (.getfield 213, 3) := by decide +kernel
theorem dX10_tried_4 : decode cX10_tried 4 = .ok (.ireturn, 1) := by decide +kernel
theorem dX10_asked_0 : decode cX10_asked 0 = .ok (.iconst 0, 1) := by decide +kernel
theorem dX10_asked_1 : decode cX10_asked 1 = .ok (.istore_n 1, 1) := by decide +kernel
theorem dX10_asked_2 : decode cX10_asked 2 = .ok (.iconst 0, 1) := by decide +kernel
theorem dX10_asked_3 : decode cX10_asked 3 = .ok (.istore_n 2, 1) := by decide +kernel
theorem dX10_asked_4 : decode cX10_asked 4 = .ok (.iload_n 2, 1) := by decide +kernel
theorem dX10_asked_5 : decode cX10_asked 5 = .ok (.aload_n 0, 1) := by decide +kernel
theorem dX10_asked_6 : decode cX10_asked 6 = .ok (.getfield 95, 3) := by decide +kernel
theorem dX10_asked_9 : decode cX10_asked 9 = .ok (.if_icmp .ge 26, 3) := by decide +kernel
theorem dX10_asked_12 : decode cX10_asked 12 = .ok (.iload_n 1, 1) := by decide +kernel
theorem dX10_asked_13 : decode cX10_asked 13 = .ok (.aload_n 0, 1) := by decide +kernel
theorem dX10_asked_14 : decode cX10_asked 14 = .ok (.getfield 16, 3) := by decide +kernel
theorem dX10_asked_17 : decode cX10_asked 17 = .ok (.iload_n 2, 1) := by decide +kernel
theorem dX10_asked_18 : decode cX10_asked 18 = .ok (.iaload, 1) := by decide +kernel
theorem dX10_asked_19 : decode cX10_asked 19 = .ok (.ifCond .ne 7, 3) := by decide +kernel
theorem dX10_asked_22 : decode cX10_asked 22 = .ok (.iconst 1, 1) := by decide +kernel
theorem dX10_asked_23 : decode cX10_asked 23 = .ok (.goto 4, 3) := by decide +kernel
theorem dX10_asked_26 : decode cX10_asked 26 = .ok (.iconst 0, 1) := by decide +kernel
theorem dX10_asked_27 : decode cX10_asked 27 = .ok (.iadd, 1) := by decide +kernel
theorem dX10_asked_28 : decode cX10_asked 28 = .ok (.istore_n 1, 1) := by decide +kernel
theorem dX10_asked_29 : decode cX10_asked 29 = .ok (.iinc 2 1, 3) := by decide +kernel
theorem dX10_asked_32 : decode cX10_asked 32 = .ok (.goto (-28), 3) := by decide +kernel
theorem dX10_asked_35 : decode cX10_asked 35 = .ok (.iload_n 1, 1) := by decide +kernel
theorem dX10_asked_36 : decode cX10_asked 36 = .ok (.ireturn, 1) := by decide +kernel
theorem dX10_told_0 : decode cX10_told 0 = .ok (.iconst 0, 1) := by decide +kernel
theorem dX10_told_1 : decode cX10_told 1 = .ok (.istore_n 2, 1) := by decide +kernel
theorem dX10_told_2 : decode cX10_told 2 = .ok (.iload_n 1, 1) := by decide +kernel
theorem dX10_told_3 : decode cX10_told 3 = .ok (.bipush 10, 2) := by decide +kernel
theorem dX10_told_5 : decode cX10_told 5 = .ok (.bipush 13, 2) := by decide +kernel
theorem dX10_told_7 : decode cX10_told 7 = .ok (.invokestatic 99, 3) := by decide +kernel
theorem dX10_told_10 : decode cX10_told 10 = .ok (.ifCond .eq 48, 3) := by decide +kernel
theorem dX10_told_13 : decode cX10_told 13 = .ok (.iconst 0, 1) := by decide +kernel
theorem dX10_told_14 : decode cX10_told 14 = .ok (.istore_n 3, 1) := by decide +kernel
theorem dX10_told_15 : decode cX10_told 15 = .ok (.iload_n 3, 1) := by decide +kernel
theorem dX10_told_16 : decode cX10_told 16 = .ok (.aload_n 0, 1) := by decide +kernel
theorem dX10_told_17 : decode cX10_told 17 = .ok (.getfield 95, 3) := by decide +kernel
theorem dX10_told_20 : decode cX10_told 20 = .ok (.if_icmp .ge 36, 3) := by decide +kernel
theorem dX10_told_23 : decode cX10_told 23 = .ok (.iload_n 2, 1) := by decide +kernel
theorem dX10_told_24 : decode cX10_told 24 = .ok (.aload_n 0, 1) := by decide +kernel
theorem dX10_told_25 : decode cX10_told 25 = .ok (.getfield 66, 3) := by decide +kernel
theorem dX10_told_28 : decode cX10_told 28 = .ok (.bipush 12, 2) := by decide +kernel
theorem dX10_told_30 : decode cX10_told 30 = .ok (.iload_n 1, 1) := by decide +kernel
theorem dX10_told_31 : decode cX10_told 31 = .ok (.bipush 10, 2) := by decide +kernel
theorem dX10_told_33 : decode cX10_told 33 = .ok (.isub, 1) := by decide +kernel
theorem dX10_told_34 : decode cX10_told 34 = .ok (.imul, 1) := by decide +kernel
theorem dX10_told_35 : decode cX10_told 35 = .ok (.iload_n 3, 1) := by decide +kernel
theorem dX10_told_36 : decode cX10_told 36 = .ok (.iadd, 1) := by decide +kernel
theorem dX10_told_37 : decode cX10_told 37 = .ok (.iaload, 1) := by decide +kernel
theorem dX10_told_38 : decode cX10_told 38 = .ok (.ldc 90, 2) := by decide +kernel
theorem dX10_told_40 : decode cX10_told 40 = .ok (.if_icmp .eq 7, 3) := by decide +kernel
theorem dX10_told_43 : decode cX10_told 43 = .ok (.iconst 1, 1) := by decide +kernel
theorem dX10_told_44 : decode cX10_told 44 = .ok (.goto 4, 3) := by decide +kernel
theorem dX10_told_47 : decode cX10_told 47 = .ok (.iconst 0, 1) := by decide +kernel
theorem dX10_told_48 : decode cX10_told 48 = .ok (.iadd, 1) := by decide +kernel
theorem dX10_told_49 : decode cX10_told 49 = .ok (.istore_n 2, 1) := by decide +kernel
theorem dX10_told_50 : decode cX10_told 50 = .ok (.iinc 3 1, 3) := by decide +kernel
theorem dX10_told_53 : decode cX10_told 53 = .ok (.goto (-38), 3) := by decide +kernel
theorem dX10_told_56 : decode cX10_told 56 = .ok (.iload_n 2, 1) := by decide +kernel
theorem dX10_told_57 : decode cX10_told 57 = .ok (.ireturn, 1) := by decide +kernel
theorem dX10_told_58 : decode cX10_told 58 = .ok (.iload_n 1, 1) := by decide +kernel
theorem dX10_told_59 : decode cX10_told 59 = .ok (.tableswitch 96 0 5 #[37, 42, 47, 52, 57, 91], 37) := by decide +kernel
theorem dX10_told_96 : decode cX10_told 96 = .ok (.aload_n 0, 1) := by decide +kernel
theorem dX10_told_97 : decode cX10_told 97 = .ok (.getfield 95, 3) := by decide +kernel
theorem dX10_told_100 : decode cX10_told 100 = .ok (.ireturn, 1) := by decide +kernel
theorem dX10_told_101 : decode cX10_told 101 = .ok (.aload_n 0, 1) := by decide +kernel
theorem dX10_told_102 : decode cX10_told 102 = .ok (.getfield 103, 3) := by decide +kernel
theorem dX10_told_105 : decode cX10_told 105 = .ok (.ireturn, 1) := by decide +kernel
theorem dX10_told_106 : decode cX10_told 106 = .ok (.aload_n 0, 1) := by decide +kernel
theorem dX10_told_107 : decode cX10_told 107 = .ok (.invokevirtual 222, 3) := by decide +kernel
theorem dX10_told_110 : decode cX10_told 110 = .ok (.ireturn, 1) := by decide +kernel
theorem dX10_told_111 : decode cX10_told 111 = .ok (.aload_n 0, 1) := by decide +kernel
theorem dX10_told_112 : decode cX10_told 112 = .ok (.getfield 181, 3) := by decide +kernel
theorem dX10_told_115 : decode cX10_told 115 = .ok (.ireturn, 1) := by decide +kernel
theorem dX10_told_116 : decode cX10_told 116 = .ok (.iconst 0, 1) := by decide +kernel
theorem dX10_told_117 : decode cX10_told 117 = .ok (.istore_n 3, 1) := by decide +kernel
theorem dX10_told_118 : decode cX10_told 118 = .ok (.iload_n 3, 1) := by decide +kernel
theorem dX10_told_119 : decode cX10_told 119 = .ok (.aload_n 0, 1) := by decide +kernel
theorem dX10_told_120 : decode cX10_told 120 = .ok (.getfield 181, 3) := by decide +kernel
theorem dX10_told_123 : decode cX10_told 123 = .ok (.if_icmp .ge 25, 3) := by decide +kernel
theorem dX10_told_126 : decode cX10_told 126 = .ok (.iload_n 2, 1) := by decide +kernel
theorem dX10_told_127 : decode cX10_told 127 = .ok (.aload_n 0, 1) := by decide +kernel
theorem dX10_told_128 : decode cX10_told 128 = .ok (.iload_n 3, 1) := by decide +kernel
theorem dX10_told_129 : decode cX10_told 129 = .ok (.invokevirtual 206, 3) := by decide +kernel
theorem dX10_told_132 : decode cX10_told 132 = .ok (.ifCond .eq 7, 3) := by decide +kernel
theorem dX10_told_135 : decode cX10_told 135 = .ok (.iconst 1, 1) := by decide +kernel
theorem dX10_told_136 : decode cX10_told 136 = .ok (.goto 4, 3) := by decide +kernel
theorem dX10_told_139 : decode cX10_told 139 = .ok (.iconst 0, 1) := by decide +kernel
theorem dX10_told_140 : decode cX10_told 140 = .ok (.iadd, 1) := by decide +kernel
theorem dX10_told_141 : decode cX10_told 141 = .ok (.istore_n 2, 1) := by decide +kernel
theorem dX10_told_142 : decode cX10_told 142 = .ok (.iinc 3 1, 3) := by decide +kernel
theorem dX10_told_145 : decode cX10_told 145 = .ok (.goto (-27), 3) := by decide +kernel
theorem dX10_told_148 : decode cX10_told 148 = .ok (.iload_n 2, 1) := by decide +kernel
theorem dX10_told_149 : decode cX10_told 149 = .ok (.ireturn, 1) := by decide +kernel
theorem dX10_told_150 : decode cX10_told 150 = .ok (.aload_n 0, 1) := by decide +kernel
theorem dX10_told_151 : decode cX10_told 151 = .ok (.getfield 200, 3) := by decide +kernel
theorem dX10_told_154 : decode cX10_told 154 = .ok (.ireturn, 1) := by decide +kernel
theorem dX10_told_155 : decode cX10_told 155 = .ok (.bipush (-2), 2) := by decide +kernel
theorem dX10_told_157 : decode cX10_told 157 = .ok (.ireturn, 1) := by decide +kernel
theorem dX10_traced_0 : decode cX10_traced 0 = .ok (.aload_n 0, 1) := by decide +kernel
theorem dX10_traced_1 : decode cX10_traced 1 = .ok (.bipush 31, 2) := by decide +kernel
theorem dX10_traced_3 : decode cX10_traced 3 = .ok (.aload_n 0, 1) := by decide +kernel
theorem dX10_traced_4 : decode cX10_traced 4 = .ok (.getfield 226, 3) := by decide +kernel
theorem dX10_traced_7 : decode cX10_traced 7 = .ok (.imul, 1) := by decide +kernel
theorem dX10_traced_8 : decode cX10_traced 8 = .ok (.iload_n 1, 1) := by decide +kernel
theorem dX10_traced_9 : decode cX10_traced 9 = .ok (.iadd, 1) := by decide +kernel
theorem dX10_traced_10 : decode cX10_traced 10 = .ok (.putfield 226, 3) := by decide +kernel
theorem dX10_traced_13 : decode cX10_traced 13 = .ok (.return_, 1) := by decide +kernel
theorem dX10_tell_0 : decode cX10_tell 0 = .ok (.aload_n 0, 1) := by decide +kernel
theorem dX10_tell_1 : decode cX10_tell 1 = .ok (.iload_n 1, 1) := by decide +kernel
theorem dX10_tell_2 : decode cX10_tell 2 = .ok (.invokevirtual 114, 3) := by decide +kernel
theorem dX10_tell_5 : decode cX10_tell 5 = .ok (.ifCond .eq 5, 3) := by decide +kernel
theorem dX10_tell_8 : decode cX10_tell 8 = .ok (.iconst (-1), 1) := by decide +kernel
theorem dX10_tell_9 : decode cX10_tell 9 = .ok (.ireturn, 1) := by decide +kernel
theorem dX10_tell_10 : decode cX10_tell 10 = .ok (.aload_n 0, 1) := by decide +kernel
theorem dX10_tell_11 : decode cX10_tell 11 = .ok (.getfield 19, 3) := by decide +kernel
theorem dX10_tell_14 : decode cX10_tell 14 = .ok (.iconst 4, 1) := by decide +kernel
theorem dX10_tell_15 : decode cX10_tell 15 = .ok (.iload_n 1, 1) := by decide +kernel
theorem dX10_tell_16 : decode cX10_tell 16 = .ok (.imul, 1) := by decide +kernel
theorem dX10_tell_17 : decode cX10_tell 17 = .ok (.iconst 1, 1) := by decide +kernel
theorem dX10_tell_18 : decode cX10_tell 18 = .ok (.iadd, 1) := by decide +kernel
theorem dX10_tell_19 : decode cX10_tell 19 = .ok (.iaload, 1) := by decide +kernel
theorem dX10_tell_20 : decode cX10_tell 20 = .ok (.ifCond .lt 7, 3) := by decide +kernel
theorem dX10_tell_23 : decode cX10_tell 23 = .ok (.iconst 1, 1) := by decide +kernel
theorem dX10_tell_24 : decode cX10_tell 24 = .ok (.goto 4, 3) := by decide +kernel
theorem dX10_tell_27 : decode cX10_tell 27 = .ok (.iconst 0, 1) := by decide +kernel
theorem dX10_tell_28 : decode cX10_tell 28 = .ok (.istore_n 2, 1) := by decide +kernel
theorem dX10_tell_29 : decode cX10_tell 29 = .ok (.iload_n 2, 1) := by decide +kernel
theorem dX10_tell_30 : decode cX10_tell 30 = .ok (.ifCond .eq 8, 3) := by decide +kernel
theorem dX10_tell_33 : decode cX10_tell 33 = .ok (.aload_n 0, 1) := by decide +kernel
theorem dX10_tell_34 : decode cX10_tell 34 = .ok (.iconst 3, 1) := by decide +kernel
theorem dX10_tell_35 : decode cX10_tell 35 = .ok (.invokevirtual 229, 3) := by decide +kernel
theorem dX10_tell_38 : decode cX10_tell 38 = .ok (.aload_n 0, 1) := by decide +kernel
theorem dX10_tell_39 : decode cX10_tell 39 = .ok (.getfield 16, 3) := by decide +kernel
theorem dX10_tell_42 : decode cX10_tell 42 = .ok (.iload_n 1, 1) := by decide +kernel
theorem dX10_tell_43 : decode cX10_tell 43 = .ok (.iaload, 1) := by decide +kernel
theorem dX10_tell_44 : decode cX10_tell 44 = .ok (.iconst 1, 1) := by decide +kernel
theorem dX10_tell_45 : decode cX10_tell 45 = .ok (.if_icmp .ne 8, 3) := by decide +kernel
theorem dX10_tell_48 : decode cX10_tell 48 = .ok (.aload_n 0, 1) := by decide +kernel
theorem dX10_tell_49 : decode cX10_tell 49 = .ok (.iconst 2, 1) := by decide +kernel
theorem dX10_tell_50 : decode cX10_tell 50 = .ok (.invokevirtual 229, 3) := by decide +kernel
theorem dX10_tell_53 : decode cX10_tell 53 = .ok (.aload_n 0, 1) := by decide +kernel
theorem dX10_tell_54 : decode cX10_tell 54 = .ok (.iconst 1, 1) := by decide +kernel
theorem dX10_tell_55 : decode cX10_tell 55 = .ok (.invokevirtual 229, 3) := by decide +kernel
theorem dX10_tell_58 : decode cX10_tell 58 = .ok (.aload_n 0, 1) := by decide +kernel
theorem dX10_tell_59 : decode cX10_tell 59 = .ok (.getfield 13, 3) := by decide +kernel
theorem dX10_tell_62 : decode cX10_tell 62 = .ok (.iload_n 1, 1) := by decide +kernel
theorem dX10_tell_63 : decode cX10_tell 63 = .ok (.iaload, 1) := by decide +kernel
theorem dX10_tell_64 : decode cX10_tell 64 = .ok (.aload_n 0, 1) := by decide +kernel
theorem dX10_tell_65 : decode cX10_tell 65 = .ok (.getfield 7, 3) := by decide +kernel
theorem dX10_tell_68 : decode cX10_tell 68 = .ok (.iload_n 1, 1) := by decide +kernel
theorem dX10_tell_69 : decode cX10_tell 69 = .ok (.iaload, 1) := by decide +kernel
theorem dX10_tell_70 : decode cX10_tell 70 = .ok (.isub, 1) := by decide +kernel
theorem dX10_tell_71 : decode cX10_tell 71 = .ok (.aload_n 0, 1) := by decide +kernel
theorem dX10_tell_72 : decode cX10_tell 72 = .ok (.getfield 16, 3) := by decide +kernel
theorem dX10_tell_75 : decode cX10_tell 75 = .ok (.iload_n 1, 1) := by decide +kernel
theorem dX10_tell_76 : decode cX10_tell 76 = .ok (.iaload, 1) := by decide +kernel
theorem dX10_tell_77 : decode cX10_tell 77 = .ok (.iconst 1, 1) := by decide +kernel
theorem dX10_tell_78 : decode cX10_tell 78 = .ok (.if_icmp .ne 9, 3) := by decide +kernel
theorem dX10_tell_81 : decode cX10_tell 81 = .ok (.sipush 1000, 3) := by decide +kernel
theorem dX10_tell_84 : decode cX10_tell 84 = .ok (.goto 4, 3) := by decide +kernel
theorem dX10_tell_87 : decode cX10_tell 87 = .ok (.iconst 0, 1) := by decide +kernel
theorem dX10_tell_88 : decode cX10_tell 88 = .ok (.iadd, 1) := by decide +kernel
theorem dX10_tell_89 : decode cX10_tell 89 = .ok (.istore_n 3, 1) := by decide +kernel
theorem dX10_tell_90 : decode cX10_tell 90 = .ok (.iload_n 2, 1) := by decide +kernel
theorem dX10_tell_91 : decode cX10_tell 91 = .ok (.ifCond .eq 9, 3) := by decide +kernel
theorem dX10_tell_94 : decode cX10_tell 94 = .ok (.iconst 2, 1) := by decide +kernel
theorem dX10_tell_95 : decode cX10_tell 95 = .ok (.iload_n 3, 1) := by decide +kernel
theorem dX10_tell_96 : decode cX10_tell 96 = .ok (.imul, 1) := by decide +kernel
theorem dX10_tell_97 : decode cX10_tell 97 = .ok (.goto 4, 3) := by decide +kernel
theorem dX10_tell_100 : decode cX10_tell 100 = .ok (.iload_n 3, 1) := by decide +kernel
theorem dX10_tell_101 : decode cX10_tell 101 = .ok (.ireturn, 1) := by decide +kernel
theorem dX10_address_0 : decode cX10_address 0 = .ok (.aload_n 0, 1) := by decide +kernel
theorem dX10_address_1 : decode cX10_address 1 = .ok (.iload_n 1, 1) := by decide +kernel
theorem dX10_address_2 : decode cX10_address 2 = .ok (.invokevirtual 114, 3) := by decide +kernel
theorem dX10_address_5 : decode cX10_address 5 = .ok (.ifCond .eq 5, 3) := by decide +kernel
theorem dX10_address_8 : decode cX10_address 8 = .ok (.iconst (-1), 1) := by decide +kernel
theorem dX10_address_9 : decode cX10_address 9 = .ok (.ireturn, 1) := by decide +kernel
theorem dX10_address_10 : decode cX10_address 10 = .ok (.aload_n 0, 1) := by decide +kernel
theorem dX10_address_11 : decode cX10_address 11 = .ok (.aload_n 0, 1) := by decide +kernel
theorem dX10_address_12 : decode cX10_address 12 = .ok (.getfield 16, 3) := by decide +kernel
theorem dX10_address_15 : decode cX10_address 15 = .ok (.iload_n 1, 1) := by decide +kernel
theorem dX10_address_16 : decode cX10_address 16 = .ok (.iaload, 1) := by decide +kernel
theorem dX10_address_17 : decode cX10_address 17 = .ok (.iconst 1, 1) := by decide +kernel
theorem dX10_address_18 : decode cX10_address 18 = .ok (.if_icmp .ne 7, 3) := by decide +kernel
theorem dX10_address_21 : decode cX10_address 21 = .ok (.iconst 5, 1) := by decide +kernel
theorem dX10_address_22 : decode cX10_address 22 = .ok (.goto 4, 3) := by decide +kernel
theorem dX10_address_25 : decode cX10_address 25 = .ok (.iconst 4, 1) := by decide +kernel
theorem dX10_address_26 : decode cX10_address 26 = .ok (.invokevirtual 229, 3) := by decide +kernel
theorem dX10_address_29 : decode cX10_address 29 = .ok (.aload_n 0, 1) := by decide +kernel
theorem dX10_address_30 : decode cX10_address 30 = .ok (.getfield 16, 3) := by decide +kernel
theorem dX10_address_33 : decode cX10_address 33 = .ok (.iload_n 1, 1) := by decide +kernel
theorem dX10_address_34 : decode cX10_address 34 = .ok (.iaload, 1) := by decide +kernel
theorem dX10_address_35 : decode cX10_address 35 = .ok (.iconst 1, 1) := by decide +kernel
theorem dX10_address_36 : decode cX10_address 36 = .ok (.if_icmp .ne 7, 3) := by decide +kernel
theorem dX10_address_39 : decode cX10_address 39 = .ok (.iconst 5, 1) := by decide +kernel
theorem dX10_address_40 : decode cX10_address 40 = .ok (.goto 7, 3) := by decide +kernel
theorem dX10_address_43 : decode cX10_address 43 = .ok (.bipush 10, 2) := by decide +kernel
theorem dX10_address_45 : decode cX10_address 45 = .ok (.iload_n 1, 1) := by decide +kernel
theorem dX10_address_46 : decode cX10_address 46 = .ok (.imul, 1) := by decide +kernel
theorem dX10_address_47 : decode cX10_address 47 = .ok (.ireturn, 1) := by decide +kernel
theorem dX10_trace_0 : decode cX10_trace 0 = .ok (.aload_n 0, 1) := by decide +kernel
theorem dX10_trace_1 : decode cX10_trace 1 = .ok (.getfield 226, 3) := by decide +kernel
theorem dX10_trace_4 : decode cX10_trace 4 = .ok (.ireturn, 1) := by decide +kernel
end
section
theorem dL_law_0 : decode cL_law 0 = .ok (.new 7, 3) := by decide +kernel
theorem dL_law_3 : decode cL_law 3 = .ok (.dup, 1) := by decide +kernel
theorem dL_law_4 : decode cL_law 4 = .ok (.invokespecial 9, 3) := by decide +kernel
theorem dL_law_7 : decode cL_law 7 = .ok (.astore_n 1, 1) := by decide +kernel
theorem dL_law_8 : decode cL_law 8 = .ok (.new 10, 3) := by decide +kernel
theorem dL_law_11 : decode cL_law 11 = .ok (.dup, 1) := by decide +kernel
theorem dL_law_12 : decode cL_law 12 = .ok (.invokespecial 12, 3) := by decide +kernel
theorem dL_law_15 : decode cL_law 15 = .ok (.astore_n 2, 1) := by decide +kernel
theorem dL_law_16 : decode cL_law 16 = .ok (.iconst 0, 1) := by decide +kernel
theorem dL_law_17 : decode cL_law 17 = .ok (.istore_n 3, 1) := by decide +kernel
theorem dL_law_18 : decode cL_law 18 = .ok (.iload_n 3, 1) := by decide +kernel
theorem dL_law_19 : decode cL_law 19 = .ok (.aload_n 0, 1) := by decide +kernel
theorem dL_law_20 : decode cL_law 20 = .ok (.arraylength, 1) := by decide +kernel
theorem dL_law_21 : decode cL_law 21 = .ok (.iconst 5, 1) := by decide +kernel
theorem dL_law_22 : decode cL_law 22 = .ok (.isub, 1) := by decide +kernel
theorem dL_law_23 : decode cL_law 23 = .ok (.if_icmp .gt 933, 3) := by decide +kernel
theorem dL_law_26 : decode cL_law 26 = .ok (.aload_n 0, 1) := by decide +kernel
theorem dL_law_27 : decode cL_law 27 = .ok (.iload_n 3, 1) := by decide +kernel
theorem dL_law_28 : decode cL_law 28 = .ok (.iaload, 1) := by decide +kernel
theorem dL_law_29 : decode cL_law 29 = .ok (.bipush 31, 2) := by decide +kernel
theorem dL_law_31 : decode cL_law 31 = .ok (.iand, 1) := by decide +kernel
theorem dL_law_32 : decode cL_law 32 = .ok (.tableswitch 918 0 25 #[120, 163, 216, 259, 282, 315, 348, 391, 424, 457, 490, 523, 546, 579, 612, 665, 688, 721, 744, 777, 800, 823, 836, 859, 882, 905], 120) := by decide +kernel
theorem dL_law_152 : decode cL_law 152 = .ok (.aload_n 1, 1) := by decide +kernel
theorem dL_law_153 : decode cL_law 153 = .ok (.aload_n 0, 1) := by decide +kernel
theorem dL_law_154 : decode cL_law 154 = .ok (.iload_n 3, 1) := by decide +kernel
theorem dL_law_155 : decode cL_law 155 = .ok (.iconst 1, 1) := by decide +kernel
theorem dL_law_156 : decode cL_law 156 = .ok (.iadd, 1) := by decide +kernel
theorem dL_law_157 : decode cL_law 157 = .ok (.iaload, 1) := by decide +kernel
theorem dL_law_158 : decode cL_law 158 = .ok (.aload_n 0, 1) := by decide +kernel
theorem dL_law_159 : decode cL_law 159 = .ok (.iload_n 3, 1) := by decide +kernel
theorem dL_law_160 : decode cL_law 160 = .ok (.iconst 2, 1) := by decide +kernel
theorem dL_law_161 : decode cL_law 161 = .ok (.iadd, 1) := by decide +kernel
theorem dL_law_162 : decode cL_law 162 = .ok (.iaload, 1) := by decide +kernel
theorem dL_law_163 : decode cL_law 163 = .ok (.aload_n 0, 1) := by decide +kernel
theorem dL_law_164 : decode cL_law 164 = .ok (.iload_n 3, 1) := by decide +kernel
theorem dL_law_165 : decode cL_law 165 = .ok (.iconst 3, 1) := by decide +kernel
theorem dL_law_166 : decode cL_law 166 = .ok (.iadd, 1) := by decide +kernel
theorem dL_law_167 : decode cL_law 167 = .ok (.iaload, 1) := by decide +kernel
theorem dL_law_168 : decode cL_law 168 = .ok (.invokevirtual 13, 3) := by decide +kernel
theorem dL_law_171 : decode cL_law 171 = .ok (.aload_n 2, 1) := by decide +kernel
theorem dL_law_172 : decode cL_law 172 = .ok (.aload_n 0, 1) := by decide +kernel
theorem dL_law_173 : decode cL_law 173 = .ok (.iload_n 3, 1) := by decide +kernel
theorem dL_law_174 : decode cL_law 174 = .ok (.iconst 1, 1) := by decide +kernel
theorem dL_law_175 : decode cL_law 175 = .ok (.iadd, 1) := by decide +kernel
theorem dL_law_176 : decode cL_law 176 = .ok (.iaload, 1) := by decide +kernel
theorem dL_law_177 : decode cL_law 177 = .ok (.aload_n 0, 1) := by decide +kernel
theorem dL_law_178 : decode cL_law 178 = .ok (.iload_n 3, 1) := by decide +kernel
theorem dL_law_179 : decode cL_law 179 = .ok (.iconst 2, 1) := by decide +kernel
theorem dL_law_180 : decode cL_law 180 = .ok (.iadd, 1) := by decide +kernel
theorem dL_law_181 : decode cL_law 181 = .ok (.iaload, 1) := by decide +kernel
theorem dL_law_182 : decode cL_law 182 = .ok (.aload_n 0, 1) := by decide +kernel
theorem dL_law_183 : decode cL_law 183 = .ok (.iload_n 3, 1) := by decide +kernel
theorem dL_law_184 : decode cL_law 184 = .ok (.iconst 3, 1) := by decide +kernel
theorem dL_law_185 : decode cL_law 185 = .ok (.iadd, 1) := by decide +kernel
theorem dL_law_186 : decode cL_law 186 = .ok (.iaload, 1) := by decide +kernel
theorem dL_law_187 : decode cL_law 187 = .ok (.invokevirtual 17, 3) := by decide +kernel
theorem dL_law_190 : decode cL_law 190 = .ok (.if_icmp .eq 760, 3) := by decide +kernel
theorem dL_law_193 : decode cL_law 193 = .ok (.iconst 0, 1) := by decide +kernel
theorem dL_law_194 : decode cL_law 194 = .ok (.ireturn, 1) := by decide +kernel
theorem dL_law_195 : decode cL_law 195 = .ok (.aload_n 1, 1) := by decide +kernel
theorem dL_law_196 : decode cL_law 196 = .ok (.aload_n 0, 1) := by decide +kernel
theorem dL_law_197 : decode cL_law 197 = .ok (.iload_n 3, 1) := by decide +kernel
theorem dL_law_198 : decode cL_law 198 = .ok (.iconst 1, 1) := by decide +kernel
theorem dL_law_199 : decode cL_law 199 = .ok (.iadd, 1) := by decide +kernel
theorem dL_law_200 : decode cL_law 200 = .ok (.iaload, 1) := by decide +kernel
theorem dL_law_201 : decode cL_law 201 = .ok (.aload_n 0, 1) := by decide +kernel
theorem dL_law_202 : decode cL_law 202 = .ok (.iload_n 3, 1) := by decide +kernel
theorem dL_law_203 : decode cL_law 203 = .ok (.iconst 2, 1) := by decide +kernel
theorem dL_law_204 : decode cL_law 204 = .ok (.iadd, 1) := by decide +kernel
theorem dL_law_205 : decode cL_law 205 = .ok (.iaload, 1) := by decide +kernel
theorem dL_law_206 : decode cL_law 206 = .ok (.aload_n 0, 1) := by decide +kernel
theorem dL_law_207 : decode cL_law 207 = .ok (.iload_n 3, 1) := by decide +kernel
theorem dL_law_208 : decode cL_law 208 = .ok (.iconst 3, 1) := by decide +kernel
theorem dL_law_209 : decode cL_law 209 = .ok (.iadd, 1) := by decide +kernel
theorem dL_law_210 : decode cL_law 210 = .ok (.iaload, 1) := by decide +kernel
theorem dL_law_211 : decode cL_law 211 = .ok (.aload_n 0, 1) := by decide +kernel
theorem dL_law_212 : decode cL_law 212 = .ok (.iload_n 3, 1) := by decide +kernel
theorem dL_law_213 : decode cL_law 213 = .ok (.iconst 4, 1) := by decide +kernel
theorem dL_law_214 : decode cL_law 214 = .ok (.iadd, 1) := by decide +kernel
theorem dL_law_215 : decode cL_law 215 = .ok (.iaload, 1) := by decide +kernel
theorem dL_law_216 : decode cL_law 216 = .ok (.invokevirtual 18, 3) := by decide +kernel
theorem dL_law_219 : decode cL_law 219 = .ok (.aload_n 2, 1) := by decide +kernel
theorem dL_law_220 : decode cL_law 220 = .ok (.aload_n 0, 1) := by decide +kernel
theorem dL_law_221 : decode cL_law 221 = .ok (.iload_n 3, 1) := by decide +kernel
theorem dL_law_222 : decode cL_law 222 = .ok (.iconst 1, 1) := by decide +kernel
theorem dL_law_223 : decode cL_law 223 = .ok (.iadd, 1) := by decide +kernel
theorem dL_law_224 : decode cL_law 224 = .ok (.iaload, 1) := by decide +kernel
theorem dL_law_225 : decode cL_law 225 = .ok (.aload_n 0, 1) := by decide +kernel
theorem dL_law_226 : decode cL_law 226 = .ok (.iload_n 3, 1) := by decide +kernel
theorem dL_law_227 : decode cL_law 227 = .ok (.iconst 2, 1) := by decide +kernel
theorem dL_law_228 : decode cL_law 228 = .ok (.iadd, 1) := by decide +kernel
theorem dL_law_229 : decode cL_law 229 = .ok (.iaload, 1) := by decide +kernel
theorem dL_law_230 : decode cL_law 230 = .ok (.aload_n 0, 1) := by decide +kernel
theorem dL_law_231 : decode cL_law 231 = .ok (.iload_n 3, 1) := by decide +kernel
theorem dL_law_232 : decode cL_law 232 = .ok (.iconst 3, 1) := by decide +kernel
theorem dL_law_233 : decode cL_law 233 = .ok (.iadd, 1) := by decide +kernel
theorem dL_law_234 : decode cL_law 234 = .ok (.iaload, 1) := by decide +kernel
theorem dL_law_235 : decode cL_law 235 = .ok (.aload_n 0, 1) := by decide +kernel
theorem dL_law_236 : decode cL_law 236 = .ok (.iload_n 3, 1) := by decide +kernel
theorem dL_law_237 : decode cL_law 237 = .ok (.iconst 4, 1) := by decide +kernel
theorem dL_law_238 : decode cL_law 238 = .ok (.iadd, 1) := by decide +kernel
theorem dL_law_239 : decode cL_law 239 = .ok (.iaload, 1) := by decide +kernel
theorem dL_law_240 : decode cL_law 240 = .ok (.invokevirtual 22, 3) := by decide +kernel
theorem dL_law_243 : decode cL_law 243 = .ok (.if_icmp .eq 707, 3) := by decide +kernel
theorem dL_law_246 : decode cL_law 246 = .ok (.iconst 0, 1) := by decide +kernel
theorem dL_law_247 : decode cL_law 247 = .ok (.ireturn, 1) := by decide +kernel
theorem dL_law_248 : decode cL_law 248 = .ok (.aload_n 1, 1) := by decide +kernel
theorem dL_law_249 : decode cL_law 249 = .ok (.aload_n 0, 1) := by decide +kernel
theorem dL_law_250 : decode cL_law 250 = .ok (.iload_n 3, 1) := by decide +kernel
theorem dL_law_251 : decode cL_law 251 = .ok (.iconst 1, 1) := by decide +kernel
theorem dL_law_252 : decode cL_law 252 = .ok (.iadd, 1) := by decide +kernel
theorem dL_law_253 : decode cL_law 253 = .ok (.iaload, 1) := by decide +kernel
theorem dL_law_254 : decode cL_law 254 = .ok (.aload_n 0, 1) := by decide +kernel
theorem dL_law_255 : decode cL_law 255 = .ok (.iload_n 3, 1) := by decide +kernel
theorem dL_law_256 : decode cL_law 256 = .ok (.iconst 2, 1) := by decide +kernel
theorem dL_law_257 : decode cL_law 257 = .ok (.iadd, 1) := by decide +kernel
theorem dL_law_258 : decode cL_law 258 = .ok (.iaload, 1) := by decide +kernel
theorem dL_law_259 : decode cL_law 259 = .ok (.aload_n 0, 1) := by decide +kernel
theorem dL_law_260 : decode cL_law 260 = .ok (.iload_n 3, 1) := by decide +kernel
theorem dL_law_261 : decode cL_law 261 = .ok (.iconst 3, 1) := by decide +kernel
theorem dL_law_262 : decode cL_law 262 = .ok (.iadd, 1) := by decide +kernel
theorem dL_law_263 : decode cL_law 263 = .ok (.iaload, 1) := by decide +kernel
theorem dL_law_264 : decode cL_law 264 = .ok (.invokevirtual 23, 3) := by decide +kernel
theorem dL_law_267 : decode cL_law 267 = .ok (.aload_n 2, 1) := by decide +kernel
theorem dL_law_268 : decode cL_law 268 = .ok (.aload_n 0, 1) := by decide +kernel
theorem dL_law_269 : decode cL_law 269 = .ok (.iload_n 3, 1) := by decide +kernel
theorem dL_law_270 : decode cL_law 270 = .ok (.iconst 1, 1) := by decide +kernel
theorem dL_law_271 : decode cL_law 271 = .ok (.iadd, 1) := by decide +kernel
theorem dL_law_272 : decode cL_law 272 = .ok (.iaload, 1) := by decide +kernel
theorem dL_law_273 : decode cL_law 273 = .ok (.aload_n 0, 1) := by decide +kernel
theorem dL_law_274 : decode cL_law 274 = .ok (.iload_n 3, 1) := by decide +kernel
theorem dL_law_275 : decode cL_law 275 = .ok (.iconst 2, 1) := by decide +kernel
theorem dL_law_276 : decode cL_law 276 = .ok (.iadd, 1) := by decide +kernel
theorem dL_law_277 : decode cL_law 277 = .ok (.iaload, 1) := by decide +kernel
theorem dL_law_278 : decode cL_law 278 = .ok (.aload_n 0, 1) := by decide +kernel
theorem dL_law_279 : decode cL_law 279 = .ok (.iload_n 3, 1) := by decide +kernel
theorem dL_law_280 : decode cL_law 280 = .ok (.iconst 3, 1) := by decide +kernel
theorem dL_law_281 : decode cL_law 281 = .ok (.iadd, 1) := by decide +kernel
theorem dL_law_282 : decode cL_law 282 = .ok (.iaload, 1) := by decide +kernel
theorem dL_law_283 : decode cL_law 283 = .ok (.invokevirtual 26, 3) := by decide +kernel
theorem dL_law_286 : decode cL_law 286 = .ok (.if_icmp .eq 664, 3) := by decide +kernel
theorem dL_law_289 : decode cL_law 289 = .ok (.iconst 0, 1) := by decide +kernel
theorem dL_law_290 : decode cL_law 290 = .ok (.ireturn, 1) := by decide +kernel
theorem dL_law_291 : decode cL_law 291 = .ok (.aload_n 1, 1) := by decide +kernel
theorem dL_law_292 : decode cL_law 292 = .ok (.aload_n 0, 1) := by decide +kernel
theorem dL_law_293 : decode cL_law 293 = .ok (.iload_n 3, 1) := by decide +kernel
theorem dL_law_294 : decode cL_law 294 = .ok (.iconst 1, 1) := by decide +kernel
theorem dL_law_295 : decode cL_law 295 = .ok (.iadd, 1) := by decide +kernel
theorem dL_law_296 : decode cL_law 296 = .ok (.iaload, 1) := by decide +kernel
theorem dL_law_297 : decode cL_law 297 = .ok (.invokevirtual 27, 3) := by decide +kernel
theorem dL_law_300 : decode cL_law 300 = .ok (.aload_n 2, 1) := by decide +kernel
theorem dL_law_301 : decode cL_law 301 = .ok (.aload_n 0, 1) := by decide +kernel
theorem dL_law_302 : decode cL_law 302 = .ok (.iload_n 3, 1) := by decide +kernel
theorem dL_law_303 : decode cL_law 303 = .ok (.iconst 1, 1) := by decide +kernel
theorem dL_law_304 : decode cL_law 304 = .ok (.iadd, 1) := by decide +kernel
theorem dL_law_305 : decode cL_law 305 = .ok (.iaload, 1) := by decide +kernel
theorem dL_law_306 : decode cL_law 306 = .ok (.invokevirtual 31, 3) := by decide +kernel
theorem dL_law_309 : decode cL_law 309 = .ok (.if_icmp .eq 641, 3) := by decide +kernel
theorem dL_law_312 : decode cL_law 312 = .ok (.iconst 0, 1) := by decide +kernel
theorem dL_law_313 : decode cL_law 313 = .ok (.ireturn, 1) := by decide +kernel
theorem dL_law_314 : decode cL_law 314 = .ok (.aload_n 1, 1) := by decide +kernel
theorem dL_law_315 : decode cL_law 315 = .ok (.aload_n 0, 1) := by decide +kernel
theorem dL_law_316 : decode cL_law 316 = .ok (.iload_n 3, 1) := by decide +kernel
theorem dL_law_317 : decode cL_law 317 = .ok (.iconst 1, 1) := by decide +kernel
theorem dL_law_318 : decode cL_law 318 = .ok (.iadd, 1) := by decide +kernel
theorem dL_law_319 : decode cL_law 319 = .ok (.iaload, 1) := by decide +kernel
theorem dL_law_320 : decode cL_law 320 = .ok (.aload_n 0, 1) := by decide +kernel
theorem dL_law_321 : decode cL_law 321 = .ok (.iload_n 3, 1) := by decide +kernel
theorem dL_law_322 : decode cL_law 322 = .ok (.iconst 2, 1) := by decide +kernel
theorem dL_law_323 : decode cL_law 323 = .ok (.iadd, 1) := by decide +kernel
theorem dL_law_324 : decode cL_law 324 = .ok (.iaload, 1) := by decide +kernel
theorem dL_law_325 : decode cL_law 325 = .ok (.invokevirtual 32, 3) := by decide +kernel
theorem dL_law_328 : decode cL_law 328 = .ok (.aload_n 2, 1) := by decide +kernel
theorem dL_law_329 : decode cL_law 329 = .ok (.aload_n 0, 1) := by decide +kernel
theorem dL_law_330 : decode cL_law 330 = .ok (.iload_n 3, 1) := by decide +kernel
theorem dL_law_331 : decode cL_law 331 = .ok (.iconst 1, 1) := by decide +kernel
theorem dL_law_332 : decode cL_law 332 = .ok (.iadd, 1) := by decide +kernel
theorem dL_law_333 : decode cL_law 333 = .ok (.iaload, 1) := by decide +kernel
theorem dL_law_334 : decode cL_law 334 = .ok (.aload_n 0, 1) := by decide +kernel
theorem dL_law_335 : decode cL_law 335 = .ok (.iload_n 3, 1) := by decide +kernel
theorem dL_law_336 : decode cL_law 336 = .ok (.iconst 2, 1) := by decide +kernel
theorem dL_law_337 : decode cL_law 337 = .ok (.iadd, 1) := by decide +kernel
theorem dL_law_338 : decode cL_law 338 = .ok (.iaload, 1) := by decide +kernel
theorem dL_law_339 : decode cL_law 339 = .ok (.invokevirtual 36, 3) := by decide +kernel
theorem dL_law_342 : decode cL_law 342 = .ok (.if_icmp .eq 608, 3) := by decide +kernel
theorem dL_law_345 : decode cL_law 345 = .ok (.iconst 0, 1) := by decide +kernel
theorem dL_law_346 : decode cL_law 346 = .ok (.ireturn, 1) := by decide +kernel
theorem dL_law_347 : decode cL_law 347 = .ok (.aload_n 1, 1) := by decide +kernel
theorem dL_law_348 : decode cL_law 348 = .ok (.aload_n 0, 1) := by decide +kernel
theorem dL_law_349 : decode cL_law 349 = .ok (.iload_n 3, 1) := by decide +kernel
theorem dL_law_350 : decode cL_law 350 = .ok (.iconst 1, 1) := by decide +kernel
theorem dL_law_351 : decode cL_law 351 = .ok (.iadd, 1) := by decide +kernel
theorem dL_law_352 : decode cL_law 352 = .ok (.iaload, 1) := by decide +kernel
theorem dL_law_353 : decode cL_law 353 = .ok (.aload_n 0, 1) := by decide +kernel
theorem dL_law_354 : decode cL_law 354 = .ok (.iload_n 3, 1) := by decide +kernel
theorem dL_law_355 : decode cL_law 355 = .ok (.iconst 2, 1) := by decide +kernel
theorem dL_law_356 : decode cL_law 356 = .ok (.iadd, 1) := by decide +kernel
theorem dL_law_357 : decode cL_law 357 = .ok (.iaload, 1) := by decide +kernel
theorem dL_law_358 : decode cL_law 358 = .ok (.invokevirtual 37, 3) := by decide +kernel
theorem dL_law_361 : decode cL_law 361 = .ok (.aload_n 2, 1) := by decide +kernel
theorem dL_law_362 : decode cL_law 362 = .ok (.aload_n 0, 1) := by decide +kernel
theorem dL_law_363 : decode cL_law 363 = .ok (.iload_n 3, 1) := by decide +kernel
theorem dL_law_364 : decode cL_law 364 = .ok (.iconst 1, 1) := by decide +kernel
theorem dL_law_365 : decode cL_law 365 = .ok (.iadd, 1) := by decide +kernel
theorem dL_law_366 : decode cL_law 366 = .ok (.iaload, 1) := by decide +kernel
theorem dL_law_367 : decode cL_law 367 = .ok (.aload_n 0, 1) := by decide +kernel
theorem dL_law_368 : decode cL_law 368 = .ok (.iload_n 3, 1) := by decide +kernel
theorem dL_law_369 : decode cL_law 369 = .ok (.iconst 2, 1) := by decide +kernel
theorem dL_law_370 : decode cL_law 370 = .ok (.iadd, 1) := by decide +kernel
theorem dL_law_371 : decode cL_law 371 = .ok (.iaload, 1) := by decide +kernel
theorem dL_law_372 : decode cL_law 372 = .ok (.invokevirtual 40, 3) := by decide +kernel
theorem dL_law_375 : decode cL_law 375 = .ok (.if_icmp .eq 575, 3) := by decide +kernel
theorem dL_law_378 : decode cL_law 378 = .ok (.iconst 0, 1) := by decide +kernel
theorem dL_law_379 : decode cL_law 379 = .ok (.ireturn, 1) := by decide +kernel
theorem dL_law_380 : decode cL_law 380 = .ok (.aload_n 1, 1) := by decide +kernel
theorem dL_law_381 : decode cL_law 381 = .ok (.aload_n 0, 1) := by decide +kernel
theorem dL_law_382 : decode cL_law 382 = .ok (.iload_n 3, 1) := by decide +kernel
theorem dL_law_383 : decode cL_law 383 = .ok (.iconst 1, 1) := by decide +kernel
theorem dL_law_384 : decode cL_law 384 = .ok (.iadd, 1) := by decide +kernel
theorem dL_law_385 : decode cL_law 385 = .ok (.iaload, 1) := by decide +kernel
theorem dL_law_386 : decode cL_law 386 = .ok (.aload_n 0, 1) := by decide +kernel
theorem dL_law_387 : decode cL_law 387 = .ok (.iload_n 3, 1) := by decide +kernel
theorem dL_law_388 : decode cL_law 388 = .ok (.iconst 2, 1) := by decide +kernel
theorem dL_law_389 : decode cL_law 389 = .ok (.iadd, 1) := by decide +kernel
theorem dL_law_390 : decode cL_law 390 = .ok (.iaload, 1) := by decide +kernel
theorem dL_law_391 : decode cL_law 391 = .ok (.aload_n 0, 1) := by decide +kernel
theorem dL_law_392 : decode cL_law 392 = .ok (.iload_n 3, 1) := by decide +kernel
theorem dL_law_393 : decode cL_law 393 = .ok (.iconst 3, 1) := by decide +kernel
theorem dL_law_394 : decode cL_law 394 = .ok (.iadd, 1) := by decide +kernel
theorem dL_law_395 : decode cL_law 395 = .ok (.iaload, 1) := by decide +kernel
theorem dL_law_396 : decode cL_law 396 = .ok (.invokevirtual 41, 3) := by decide +kernel
theorem dL_law_399 : decode cL_law 399 = .ok (.aload_n 2, 1) := by decide +kernel
theorem dL_law_400 : decode cL_law 400 = .ok (.aload_n 0, 1) := by decide +kernel
theorem dL_law_401 : decode cL_law 401 = .ok (.iload_n 3, 1) := by decide +kernel
theorem dL_law_402 : decode cL_law 402 = .ok (.iconst 1, 1) := by decide +kernel
theorem dL_law_403 : decode cL_law 403 = .ok (.iadd, 1) := by decide +kernel
theorem dL_law_404 : decode cL_law 404 = .ok (.iaload, 1) := by decide +kernel
theorem dL_law_405 : decode cL_law 405 = .ok (.aload_n 0, 1) := by decide +kernel
theorem dL_law_406 : decode cL_law 406 = .ok (.iload_n 3, 1) := by decide +kernel
theorem dL_law_407 : decode cL_law 407 = .ok (.iconst 2, 1) := by decide +kernel
theorem dL_law_408 : decode cL_law 408 = .ok (.iadd, 1) := by decide +kernel
theorem dL_law_409 : decode cL_law 409 = .ok (.iaload, 1) := by decide +kernel
theorem dL_law_410 : decode cL_law 410 = .ok (.aload_n 0, 1) := by decide +kernel
theorem dL_law_411 : decode cL_law 411 = .ok (.iload_n 3, 1) := by decide +kernel
theorem dL_law_412 : decode cL_law 412 = .ok (.iconst 3, 1) := by decide +kernel
theorem dL_law_413 : decode cL_law 413 = .ok (.iadd, 1) := by decide +kernel
theorem dL_law_414 : decode cL_law 414 = .ok (.iaload, 1) := by decide +kernel
theorem dL_law_415 : decode cL_law 415 = .ok (.invokevirtual 44, 3) := by decide +kernel
theorem dL_law_418 : decode cL_law 418 = .ok (.if_icmp .eq 532, 3) := by decide +kernel
theorem dL_law_421 : decode cL_law 421 = .ok (.iconst 0, 1) := by decide +kernel
theorem dL_law_422 : decode cL_law 422 = .ok (.ireturn, 1) := by decide +kernel
theorem dL_law_423 : decode cL_law 423 = .ok (.aload_n 1, 1) := by decide +kernel
theorem dL_law_424 : decode cL_law 424 = .ok (.aload_n 0, 1) := by decide +kernel
theorem dL_law_425 : decode cL_law 425 = .ok (.iload_n 3, 1) := by decide +kernel
theorem dL_law_426 : decode cL_law 426 = .ok (.iconst 1, 1) := by decide +kernel
theorem dL_law_427 : decode cL_law 427 = .ok (.iadd, 1) := by decide +kernel
theorem dL_law_428 : decode cL_law 428 = .ok (.iaload, 1) := by decide +kernel
theorem dL_law_429 : decode cL_law 429 = .ok (.aload_n 0, 1) := by decide +kernel
theorem dL_law_430 : decode cL_law 430 = .ok (.iload_n 3, 1) := by decide +kernel
theorem dL_law_431 : decode cL_law 431 = .ok (.iconst 2, 1) := by decide +kernel
theorem dL_law_432 : decode cL_law 432 = .ok (.iadd, 1) := by decide +kernel
theorem dL_law_433 : decode cL_law 433 = .ok (.iaload, 1) := by decide +kernel
theorem dL_law_434 : decode cL_law 434 = .ok (.invokevirtual 45, 3) := by decide +kernel
theorem dL_law_437 : decode cL_law 437 = .ok (.aload_n 2, 1) := by decide +kernel
theorem dL_law_438 : decode cL_law 438 = .ok (.aload_n 0, 1) := by decide +kernel
theorem dL_law_439 : decode cL_law 439 = .ok (.iload_n 3, 1) := by decide +kernel
theorem dL_law_440 : decode cL_law 440 = .ok (.iconst 1, 1) := by decide +kernel
theorem dL_law_441 : decode cL_law 441 = .ok (.iadd, 1) := by decide +kernel
theorem dL_law_442 : decode cL_law 442 = .ok (.iaload, 1) := by decide +kernel
theorem dL_law_443 : decode cL_law 443 = .ok (.aload_n 0, 1) := by decide +kernel
theorem dL_law_444 : decode cL_law 444 = .ok (.iload_n 3, 1) := by decide +kernel
theorem dL_law_445 : decode cL_law 445 = .ok (.iconst 2, 1) := by decide +kernel
theorem dL_law_446 : decode cL_law 446 = .ok (.iadd, 1) := by decide +kernel
theorem dL_law_447 : decode cL_law 447 = .ok (.iaload, 1) := by decide +kernel
theorem dL_law_448 : decode cL_law 448 = .ok (.invokevirtual 48, 3) := by decide +kernel
theorem dL_law_451 : decode cL_law 451 = .ok (.if_icmp .eq 499, 3) := by decide +kernel
theorem dL_law_454 : decode cL_law 454 = .ok (.iconst 0, 1) := by decide +kernel
theorem dL_law_455 : decode cL_law 455 = .ok (.ireturn, 1) := by decide +kernel
theorem dL_law_456 : decode cL_law 456 = .ok (.aload_n 1, 1) := by decide +kernel
theorem dL_law_457 : decode cL_law 457 = .ok (.aload_n 0, 1) := by decide +kernel
theorem dL_law_458 : decode cL_law 458 = .ok (.iload_n 3, 1) := by decide +kernel
theorem dL_law_459 : decode cL_law 459 = .ok (.iconst 1, 1) := by decide +kernel
theorem dL_law_460 : decode cL_law 460 = .ok (.iadd, 1) := by decide +kernel
theorem dL_law_461 : decode cL_law 461 = .ok (.iaload, 1) := by decide +kernel
theorem dL_law_462 : decode cL_law 462 = .ok (.aload_n 0, 1) := by decide +kernel
theorem dL_law_463 : decode cL_law 463 = .ok (.iload_n 3, 1) := by decide +kernel
theorem dL_law_464 : decode cL_law 464 = .ok (.iconst 2, 1) := by decide +kernel
theorem dL_law_465 : decode cL_law 465 = .ok (.iadd, 1) := by decide +kernel
theorem dL_law_466 : decode cL_law 466 = .ok (.iaload, 1) := by decide +kernel
theorem dL_law_467 : decode cL_law 467 = .ok (.invokevirtual 49, 3) := by decide +kernel
theorem dL_law_470 : decode cL_law 470 = .ok (.aload_n 2, 1) := by decide +kernel
theorem dL_law_471 : decode cL_law 471 = .ok (.aload_n 0, 1) := by decide +kernel
theorem dL_law_472 : decode cL_law 472 = .ok (.iload_n 3, 1) := by decide +kernel
theorem dL_law_473 : decode cL_law 473 = .ok (.iconst 1, 1) := by decide +kernel
theorem dL_law_474 : decode cL_law 474 = .ok (.iadd, 1) := by decide +kernel
theorem dL_law_475 : decode cL_law 475 = .ok (.iaload, 1) := by decide +kernel
theorem dL_law_476 : decode cL_law 476 = .ok (.aload_n 0, 1) := by decide +kernel
theorem dL_law_477 : decode cL_law 477 = .ok (.iload_n 3, 1) := by decide +kernel
theorem dL_law_478 : decode cL_law 478 = .ok (.iconst 2, 1) := by decide +kernel
theorem dL_law_479 : decode cL_law 479 = .ok (.iadd, 1) := by decide +kernel
theorem dL_law_480 : decode cL_law 480 = .ok (.iaload, 1) := by decide +kernel
theorem dL_law_481 : decode cL_law 481 = .ok (.invokevirtual 52, 3) := by decide +kernel
theorem dL_law_484 : decode cL_law 484 = .ok (.if_icmp .eq 466, 3) := by decide +kernel
theorem dL_law_487 : decode cL_law 487 = .ok (.iconst 0, 1) := by decide +kernel
theorem dL_law_488 : decode cL_law 488 = .ok (.ireturn, 1) := by decide +kernel
theorem dL_law_489 : decode cL_law 489 = .ok (.aload_n 1, 1) := by decide +kernel
theorem dL_law_490 : decode cL_law 490 = .ok (.aload_n 0, 1) := by decide +kernel
theorem dL_law_491 : decode cL_law 491 = .ok (.iload_n 3, 1) := by decide +kernel
theorem dL_law_492 : decode cL_law 492 = .ok (.iconst 1, 1) := by decide +kernel
theorem dL_law_493 : decode cL_law 493 = .ok (.iadd, 1) := by decide +kernel
theorem dL_law_494 : decode cL_law 494 = .ok (.iaload, 1) := by decide +kernel
theorem dL_law_495 : decode cL_law 495 = .ok (.aload_n 0, 1) := by decide +kernel
theorem dL_law_496 : decode cL_law 496 = .ok (.iload_n 3, 1) := by decide +kernel
theorem dL_law_497 : decode cL_law 497 = .ok (.iconst 2, 1) := by decide +kernel
theorem dL_law_498 : decode cL_law 498 = .ok (.iadd, 1) := by decide +kernel
theorem dL_law_499 : decode cL_law 499 = .ok (.iaload, 1) := by decide +kernel
theorem dL_law_500 : decode cL_law 500 = .ok (.invokevirtual 53, 3) := by decide +kernel
theorem dL_law_503 : decode cL_law 503 = .ok (.aload_n 2, 1) := by decide +kernel
theorem dL_law_504 : decode cL_law 504 = .ok (.aload_n 0, 1) := by decide +kernel
theorem dL_law_505 : decode cL_law 505 = .ok (.iload_n 3, 1) := by decide +kernel
theorem dL_law_506 : decode cL_law 506 = .ok (.iconst 1, 1) := by decide +kernel
theorem dL_law_507 : decode cL_law 507 = .ok (.iadd, 1) := by decide +kernel
theorem dL_law_508 : decode cL_law 508 = .ok (.iaload, 1) := by decide +kernel
theorem dL_law_509 : decode cL_law 509 = .ok (.aload_n 0, 1) := by decide +kernel
theorem dL_law_510 : decode cL_law 510 = .ok (.iload_n 3, 1) := by decide +kernel
theorem dL_law_511 : decode cL_law 511 = .ok (.iconst 2, 1) := by decide +kernel
theorem dL_law_512 : decode cL_law 512 = .ok (.iadd, 1) := by decide +kernel
theorem dL_law_513 : decode cL_law 513 = .ok (.iaload, 1) := by decide +kernel
theorem dL_law_514 : decode cL_law 514 = .ok (.invokevirtual 56, 3) := by decide +kernel
theorem dL_law_517 : decode cL_law 517 = .ok (.if_icmp .eq 433, 3) := by decide +kernel
theorem dL_law_520 : decode cL_law 520 = .ok (.iconst 0, 1) := by decide +kernel
theorem dL_law_521 : decode cL_law 521 = .ok (.ireturn, 1) := by decide +kernel
theorem dL_law_522 : decode cL_law 522 = .ok (.aload_n 1, 1) := by decide +kernel
theorem dL_law_523 : decode cL_law 523 = .ok (.aload_n 0, 1) := by decide +kernel
theorem dL_law_524 : decode cL_law 524 = .ok (.iload_n 3, 1) := by decide +kernel
theorem dL_law_525 : decode cL_law 525 = .ok (.iconst 1, 1) := by decide +kernel
theorem dL_law_526 : decode cL_law 526 = .ok (.iadd, 1) := by decide +kernel
theorem dL_law_527 : decode cL_law 527 = .ok (.iaload, 1) := by decide +kernel
theorem dL_law_528 : decode cL_law 528 = .ok (.aload_n 0, 1) := by decide +kernel
theorem dL_law_529 : decode cL_law 529 = .ok (.iload_n 3, 1) := by decide +kernel
theorem dL_law_530 : decode cL_law 530 = .ok (.iconst 2, 1) := by decide +kernel
theorem dL_law_531 : decode cL_law 531 = .ok (.iadd, 1) := by decide +kernel
theorem dL_law_532 : decode cL_law 532 = .ok (.iaload, 1) := by decide +kernel
theorem dL_law_533 : decode cL_law 533 = .ok (.invokevirtual 57, 3) := by decide +kernel
theorem dL_law_536 : decode cL_law 536 = .ok (.aload_n 2, 1) := by decide +kernel
theorem dL_law_537 : decode cL_law 537 = .ok (.aload_n 0, 1) := by decide +kernel
theorem dL_law_538 : decode cL_law 538 = .ok (.iload_n 3, 1) := by decide +kernel
theorem dL_law_539 : decode cL_law 539 = .ok (.iconst 1, 1) := by decide +kernel
theorem dL_law_540 : decode cL_law 540 = .ok (.iadd, 1) := by decide +kernel
theorem dL_law_541 : decode cL_law 541 = .ok (.iaload, 1) := by decide +kernel
theorem dL_law_542 : decode cL_law 542 = .ok (.aload_n 0, 1) := by decide +kernel
theorem dL_law_543 : decode cL_law 543 = .ok (.iload_n 3, 1) := by decide +kernel
theorem dL_law_544 : decode cL_law 544 = .ok (.iconst 2, 1) := by decide +kernel
theorem dL_law_545 : decode cL_law 545 = .ok (.iadd, 1) := by decide +kernel
theorem dL_law_546 : decode cL_law 546 = .ok (.iaload, 1) := by decide +kernel
theorem dL_law_547 : decode cL_law 547 = .ok (.invokevirtual 60, 3) := by decide +kernel
theorem dL_law_550 : decode cL_law 550 = .ok (.if_icmp .eq 400, 3) := by decide +kernel
theorem dL_law_553 : decode cL_law 553 = .ok (.iconst 0, 1) := by decide +kernel
theorem dL_law_554 : decode cL_law 554 = .ok (.ireturn, 1) := by decide +kernel
theorem dL_law_555 : decode cL_law 555 = .ok (.aload_n 1, 1) := by decide +kernel
theorem dL_law_556 : decode cL_law 556 = .ok (.aload_n 0, 1) := by decide +kernel
theorem dL_law_557 : decode cL_law 557 = .ok (.iload_n 3, 1) := by decide +kernel
theorem dL_law_558 : decode cL_law 558 = .ok (.iconst 1, 1) := by decide +kernel
theorem dL_law_559 : decode cL_law 559 = .ok (.iadd, 1) := by decide +kernel
theorem dL_law_560 : decode cL_law 560 = .ok (.iaload, 1) := by decide +kernel
theorem dL_law_561 : decode cL_law 561 = .ok (.invokevirtual 61, 3) := by decide +kernel
theorem dL_law_564 : decode cL_law 564 = .ok (.aload_n 2, 1) := by decide +kernel
theorem dL_law_565 : decode cL_law 565 = .ok (.aload_n 0, 1) := by decide +kernel
theorem dL_law_566 : decode cL_law 566 = .ok (.iload_n 3, 1) := by decide +kernel
theorem dL_law_567 : decode cL_law 567 = .ok (.iconst 1, 1) := by decide +kernel
theorem dL_law_568 : decode cL_law 568 = .ok (.iadd, 1) := by decide +kernel
theorem dL_law_569 : decode cL_law 569 = .ok (.iaload, 1) := by decide +kernel
theorem dL_law_570 : decode cL_law 570 = .ok (.invokevirtual 64, 3) := by decide +kernel
theorem dL_law_573 : decode cL_law 573 = .ok (.if_icmp .eq 377, 3) := by decide +kernel
theorem dL_law_576 : decode cL_law 576 = .ok (.iconst 0, 1) := by decide +kernel
theorem dL_law_577 : decode cL_law 577 = .ok (.ireturn, 1) := by decide +kernel
theorem dL_law_578 : decode cL_law 578 = .ok (.aload_n 1, 1) := by decide +kernel
theorem dL_law_579 : decode cL_law 579 = .ok (.aload_n 0, 1) := by decide +kernel
theorem dL_law_580 : decode cL_law 580 = .ok (.iload_n 3, 1) := by decide +kernel
theorem dL_law_581 : decode cL_law 581 = .ok (.iconst 1, 1) := by decide +kernel
theorem dL_law_582 : decode cL_law 582 = .ok (.iadd, 1) := by decide +kernel
theorem dL_law_583 : decode cL_law 583 = .ok (.iaload, 1) := by decide +kernel
theorem dL_law_584 : decode cL_law 584 = .ok (.aload_n 0, 1) := by decide +kernel
theorem dL_law_585 : decode cL_law 585 = .ok (.iload_n 3, 1) := by decide +kernel
theorem dL_law_586 : decode cL_law 586 = .ok (.iconst 2, 1) := by decide +kernel
theorem dL_law_587 : decode cL_law 587 = .ok (.iadd, 1) := by decide +kernel
theorem dL_law_588 : decode cL_law 588 = .ok (.iaload, 1) := by decide +kernel
theorem dL_law_589 : decode cL_law 589 = .ok (.invokevirtual 65, 3) := by decide +kernel
theorem dL_law_592 : decode cL_law 592 = .ok (.aload_n 2, 1) := by decide +kernel
theorem dL_law_593 : decode cL_law 593 = .ok (.aload_n 0, 1) := by decide +kernel
theorem dL_law_594 : decode cL_law 594 = .ok (.iload_n 3, 1) := by decide +kernel
theorem dL_law_595 : decode cL_law 595 = .ok (.iconst 1, 1) := by decide +kernel
theorem dL_law_596 : decode cL_law 596 = .ok (.iadd, 1) := by decide +kernel
theorem dL_law_597 : decode cL_law 597 = .ok (.iaload, 1) := by decide +kernel
theorem dL_law_598 : decode cL_law 598 = .ok (.aload_n 0, 1) := by decide +kernel
theorem dL_law_599 : decode cL_law 599 = .ok (.iload_n 3, 1) := by decide +kernel
theorem dL_law_600 : decode cL_law 600 = .ok (.iconst 2, 1) := by decide +kernel
theorem dL_law_601 : decode cL_law 601 = .ok (.iadd, 1) := by decide +kernel
theorem dL_law_602 : decode cL_law 602 = .ok (.iaload, 1) := by decide +kernel
theorem dL_law_603 : decode cL_law 603 = .ok (.invokevirtual 68, 3) := by decide +kernel
theorem dL_law_606 : decode cL_law 606 = .ok (.if_icmp .eq 344, 3) := by decide +kernel
theorem dL_law_609 : decode cL_law 609 = .ok (.iconst 0, 1) := by decide +kernel
theorem dL_law_610 : decode cL_law 610 = .ok (.ireturn, 1) := by decide +kernel
theorem dL_law_611 : decode cL_law 611 = .ok (.aload_n 1, 1) := by decide +kernel
theorem dL_law_612 : decode cL_law 612 = .ok (.aload_n 0, 1) := by decide +kernel
theorem dL_law_613 : decode cL_law 613 = .ok (.iload_n 3, 1) := by decide +kernel
theorem dL_law_614 : decode cL_law 614 = .ok (.iconst 1, 1) := by decide +kernel
theorem dL_law_615 : decode cL_law 615 = .ok (.iadd, 1) := by decide +kernel
theorem dL_law_616 : decode cL_law 616 = .ok (.iaload, 1) := by decide +kernel
theorem dL_law_617 : decode cL_law 617 = .ok (.aload_n 0, 1) := by decide +kernel
theorem dL_law_618 : decode cL_law 618 = .ok (.iload_n 3, 1) := by decide +kernel
theorem dL_law_619 : decode cL_law 619 = .ok (.iconst 2, 1) := by decide +kernel
theorem dL_law_620 : decode cL_law 620 = .ok (.iadd, 1) := by decide +kernel
theorem dL_law_621 : decode cL_law 621 = .ok (.iaload, 1) := by decide +kernel
theorem dL_law_622 : decode cL_law 622 = .ok (.invokevirtual 69, 3) := by decide +kernel
theorem dL_law_625 : decode cL_law 625 = .ok (.aload_n 2, 1) := by decide +kernel
theorem dL_law_626 : decode cL_law 626 = .ok (.aload_n 0, 1) := by decide +kernel
theorem dL_law_627 : decode cL_law 627 = .ok (.iload_n 3, 1) := by decide +kernel
theorem dL_law_628 : decode cL_law 628 = .ok (.iconst 1, 1) := by decide +kernel
theorem dL_law_629 : decode cL_law 629 = .ok (.iadd, 1) := by decide +kernel
theorem dL_law_630 : decode cL_law 630 = .ok (.iaload, 1) := by decide +kernel
theorem dL_law_631 : decode cL_law 631 = .ok (.aload_n 0, 1) := by decide +kernel
theorem dL_law_632 : decode cL_law 632 = .ok (.iload_n 3, 1) := by decide +kernel
theorem dL_law_633 : decode cL_law 633 = .ok (.iconst 2, 1) := by decide +kernel
theorem dL_law_634 : decode cL_law 634 = .ok (.iadd, 1) := by decide +kernel
theorem dL_law_635 : decode cL_law 635 = .ok (.iaload, 1) := by decide +kernel
theorem dL_law_636 : decode cL_law 636 = .ok (.invokevirtual 72, 3) := by decide +kernel
theorem dL_law_639 : decode cL_law 639 = .ok (.if_icmp .eq 311, 3) := by decide +kernel
theorem dL_law_642 : decode cL_law 642 = .ok (.iconst 0, 1) := by decide +kernel
theorem dL_law_643 : decode cL_law 643 = .ok (.ireturn, 1) := by decide +kernel
theorem dL_law_644 : decode cL_law 644 = .ok (.aload_n 1, 1) := by decide +kernel
theorem dL_law_645 : decode cL_law 645 = .ok (.aload_n 0, 1) := by decide +kernel
theorem dL_law_646 : decode cL_law 646 = .ok (.iload_n 3, 1) := by decide +kernel
theorem dL_law_647 : decode cL_law 647 = .ok (.iconst 1, 1) := by decide +kernel
theorem dL_law_648 : decode cL_law 648 = .ok (.iadd, 1) := by decide +kernel
theorem dL_law_649 : decode cL_law 649 = .ok (.iaload, 1) := by decide +kernel
theorem dL_law_650 : decode cL_law 650 = .ok (.aload_n 0, 1) := by decide +kernel
theorem dL_law_651 : decode cL_law 651 = .ok (.iload_n 3, 1) := by decide +kernel
theorem dL_law_652 : decode cL_law 652 = .ok (.iconst 2, 1) := by decide +kernel
theorem dL_law_653 : decode cL_law 653 = .ok (.iadd, 1) := by decide +kernel
theorem dL_law_654 : decode cL_law 654 = .ok (.iaload, 1) := by decide +kernel
theorem dL_law_655 : decode cL_law 655 = .ok (.aload_n 0, 1) := by decide +kernel
theorem dL_law_656 : decode cL_law 656 = .ok (.iload_n 3, 1) := by decide +kernel
theorem dL_law_657 : decode cL_law 657 = .ok (.iconst 3, 1) := by decide +kernel
theorem dL_law_658 : decode cL_law 658 = .ok (.iadd, 1) := by decide +kernel
theorem dL_law_659 : decode cL_law 659 = .ok (.iaload, 1) := by decide +kernel
theorem dL_law_660 : decode cL_law 660 = .ok (.aload_n 0, 1) := by decide +kernel
theorem dL_law_661 : decode cL_law 661 = .ok (.iload_n 3, 1) := by decide +kernel
theorem dL_law_662 : decode cL_law 662 = .ok (.iconst 4, 1) := by decide +kernel
theorem dL_law_663 : decode cL_law 663 = .ok (.iadd, 1) := by decide +kernel
theorem dL_law_664 : decode cL_law 664 = .ok (.iaload, 1) := by decide +kernel
theorem dL_law_665 : decode cL_law 665 = .ok (.invokevirtual 73, 3) := by decide +kernel
theorem dL_law_668 : decode cL_law 668 = .ok (.aload_n 2, 1) := by decide +kernel
theorem dL_law_669 : decode cL_law 669 = .ok (.aload_n 0, 1) := by decide +kernel
theorem dL_law_670 : decode cL_law 670 = .ok (.iload_n 3, 1) := by decide +kernel
theorem dL_law_671 : decode cL_law 671 = .ok (.iconst 1, 1) := by decide +kernel
theorem dL_law_672 : decode cL_law 672 = .ok (.iadd, 1) := by decide +kernel
theorem dL_law_673 : decode cL_law 673 = .ok (.iaload, 1) := by decide +kernel
theorem dL_law_674 : decode cL_law 674 = .ok (.aload_n 0, 1) := by decide +kernel
theorem dL_law_675 : decode cL_law 675 = .ok (.iload_n 3, 1) := by decide +kernel
theorem dL_law_676 : decode cL_law 676 = .ok (.iconst 2, 1) := by decide +kernel
theorem dL_law_677 : decode cL_law 677 = .ok (.iadd, 1) := by decide +kernel
theorem dL_law_678 : decode cL_law 678 = .ok (.iaload, 1) := by decide +kernel
theorem dL_law_679 : decode cL_law 679 = .ok (.aload_n 0, 1) := by decide +kernel
theorem dL_law_680 : decode cL_law 680 = .ok (.iload_n 3, 1) := by decide +kernel
theorem dL_law_681 : decode cL_law 681 = .ok (.iconst 3, 1) := by decide +kernel
theorem dL_law_682 : decode cL_law 682 = .ok (.iadd, 1) := by decide +kernel
theorem dL_law_683 : decode cL_law 683 = .ok (.iaload, 1) := by decide +kernel
theorem dL_law_684 : decode cL_law 684 = .ok (.aload_n 0, 1) := by decide +kernel
theorem dL_law_685 : decode cL_law 685 = .ok (.iload_n 3, 1) := by decide +kernel
theorem dL_law_686 : decode cL_law 686 = .ok (.iconst 4, 1) := by decide +kernel
theorem dL_law_687 : decode cL_law 687 = .ok (.iadd, 1) := by decide +kernel
theorem dL_law_688 : decode cL_law 688 = .ok (.iaload, 1) := by decide +kernel
theorem dL_law_689 : decode cL_law 689 = .ok (.invokevirtual 76, 3) := by decide +kernel
theorem dL_law_692 : decode cL_law 692 = .ok (.if_icmp .eq 258, 3) := by decide +kernel
theorem dL_law_695 : decode cL_law 695 = .ok (.iconst 0, 1) := by decide +kernel
theorem dL_law_696 : decode cL_law 696 = .ok (.ireturn, 1) := by decide +kernel
theorem dL_law_697 : decode cL_law 697 = .ok (.aload_n 1, 1) := by decide +kernel
theorem dL_law_698 : decode cL_law 698 = .ok (.aload_n 0, 1) := by decide +kernel
theorem dL_law_699 : decode cL_law 699 = .ok (.iload_n 3, 1) := by decide +kernel
theorem dL_law_700 : decode cL_law 700 = .ok (.iconst 1, 1) := by decide +kernel
theorem dL_law_701 : decode cL_law 701 = .ok (.iadd, 1) := by decide +kernel
theorem dL_law_702 : decode cL_law 702 = .ok (.iaload, 1) := by decide +kernel
theorem dL_law_703 : decode cL_law 703 = .ok (.invokevirtual 77, 3) := by decide +kernel
theorem dL_law_706 : decode cL_law 706 = .ok (.aload_n 2, 1) := by decide +kernel
theorem dL_law_707 : decode cL_law 707 = .ok (.aload_n 0, 1) := by decide +kernel
theorem dL_law_708 : decode cL_law 708 = .ok (.iload_n 3, 1) := by decide +kernel
theorem dL_law_709 : decode cL_law 709 = .ok (.iconst 1, 1) := by decide +kernel
theorem dL_law_710 : decode cL_law 710 = .ok (.iadd, 1) := by decide +kernel
theorem dL_law_711 : decode cL_law 711 = .ok (.iaload, 1) := by decide +kernel
theorem dL_law_712 : decode cL_law 712 = .ok (.invokevirtual 80, 3) := by decide +kernel
theorem dL_law_715 : decode cL_law 715 = .ok (.if_icmp .eq 235, 3) := by decide +kernel
theorem dL_law_718 : decode cL_law 718 = .ok (.iconst 0, 1) := by decide +kernel
theorem dL_law_719 : decode cL_law 719 = .ok (.ireturn, 1) := by decide +kernel
theorem dL_law_720 : decode cL_law 720 = .ok (.aload_n 1, 1) := by decide +kernel
theorem dL_law_721 : decode cL_law 721 = .ok (.aload_n 0, 1) := by decide +kernel
theorem dL_law_722 : decode cL_law 722 = .ok (.iload_n 3, 1) := by decide +kernel
theorem dL_law_723 : decode cL_law 723 = .ok (.iconst 1, 1) := by decide +kernel
theorem dL_law_724 : decode cL_law 724 = .ok (.iadd, 1) := by decide +kernel
theorem dL_law_725 : decode cL_law 725 = .ok (.iaload, 1) := by decide +kernel
theorem dL_law_726 : decode cL_law 726 = .ok (.aload_n 0, 1) := by decide +kernel
theorem dL_law_727 : decode cL_law 727 = .ok (.iload_n 3, 1) := by decide +kernel
theorem dL_law_728 : decode cL_law 728 = .ok (.iconst 2, 1) := by decide +kernel
theorem dL_law_729 : decode cL_law 729 = .ok (.iadd, 1) := by decide +kernel
theorem dL_law_730 : decode cL_law 730 = .ok (.iaload, 1) := by decide +kernel
theorem dL_law_731 : decode cL_law 731 = .ok (.invokevirtual 81, 3) := by decide +kernel
theorem dL_law_734 : decode cL_law 734 = .ok (.aload_n 2, 1) := by decide +kernel
theorem dL_law_735 : decode cL_law 735 = .ok (.aload_n 0, 1) := by decide +kernel
theorem dL_law_736 : decode cL_law 736 = .ok (.iload_n 3, 1) := by decide +kernel
theorem dL_law_737 : decode cL_law 737 = .ok (.iconst 1, 1) := by decide +kernel
theorem dL_law_738 : decode cL_law 738 = .ok (.iadd, 1) := by decide +kernel
theorem dL_law_739 : decode cL_law 739 = .ok (.iaload, 1) := by decide +kernel
theorem dL_law_740 : decode cL_law 740 = .ok (.aload_n 0, 1) := by decide +kernel
theorem dL_law_741 : decode cL_law 741 = .ok (.iload_n 3, 1) := by decide +kernel
theorem dL_law_742 : decode cL_law 742 = .ok (.iconst 2, 1) := by decide +kernel
theorem dL_law_743 : decode cL_law 743 = .ok (.iadd, 1) := by decide +kernel
theorem dL_law_744 : decode cL_law 744 = .ok (.iaload, 1) := by decide +kernel
theorem dL_law_745 : decode cL_law 745 = .ok (.invokevirtual 84, 3) := by decide +kernel
theorem dL_law_748 : decode cL_law 748 = .ok (.if_icmp .eq 202, 3) := by decide +kernel
theorem dL_law_751 : decode cL_law 751 = .ok (.iconst 0, 1) := by decide +kernel
theorem dL_law_752 : decode cL_law 752 = .ok (.ireturn, 1) := by decide +kernel
theorem dL_law_753 : decode cL_law 753 = .ok (.aload_n 1, 1) := by decide +kernel
theorem dL_law_754 : decode cL_law 754 = .ok (.aload_n 0, 1) := by decide +kernel
theorem dL_law_755 : decode cL_law 755 = .ok (.iload_n 3, 1) := by decide +kernel
theorem dL_law_756 : decode cL_law 756 = .ok (.iconst 1, 1) := by decide +kernel
theorem dL_law_757 : decode cL_law 757 = .ok (.iadd, 1) := by decide +kernel
theorem dL_law_758 : decode cL_law 758 = .ok (.iaload, 1) := by decide +kernel
theorem dL_law_759 : decode cL_law 759 = .ok (.invokevirtual 85, 3) := by decide +kernel
theorem dL_law_762 : decode cL_law 762 = .ok (.aload_n 2, 1) := by decide +kernel
theorem dL_law_763 : decode cL_law 763 = .ok (.aload_n 0, 1) := by decide +kernel
theorem dL_law_764 : decode cL_law 764 = .ok (.iload_n 3, 1) := by decide +kernel
theorem dL_law_765 : decode cL_law 765 = .ok (.iconst 1, 1) := by decide +kernel
theorem dL_law_766 : decode cL_law 766 = .ok (.iadd, 1) := by decide +kernel
theorem dL_law_767 : decode cL_law 767 = .ok (.iaload, 1) := by decide +kernel
theorem dL_law_768 : decode cL_law 768 = .ok (.invokevirtual 88, 3) := by decide +kernel
theorem dL_law_771 : decode cL_law 771 = .ok (.if_icmp .eq 179, 3) := by decide +kernel
theorem dL_law_774 : decode cL_law 774 = .ok (.iconst 0, 1) := by decide +kernel
theorem dL_law_775 : decode cL_law 775 = .ok (.ireturn, 1) := by decide +kernel
theorem dL_law_776 : decode cL_law 776 = .ok (.aload_n 1, 1) := by decide +kernel
theorem dL_law_777 : decode cL_law 777 = .ok (.aload_n 0, 1) := by decide +kernel
theorem dL_law_778 : decode cL_law 778 = .ok (.iload_n 3, 1) := by decide +kernel
theorem dL_law_779 : decode cL_law 779 = .ok (.iconst 1, 1) := by decide +kernel
theorem dL_law_780 : decode cL_law 780 = .ok (.iadd, 1) := by decide +kernel
theorem dL_law_781 : decode cL_law 781 = .ok (.iaload, 1) := by decide +kernel
theorem dL_law_782 : decode cL_law 782 = .ok (.aload_n 0, 1) := by decide +kernel
theorem dL_law_783 : decode cL_law 783 = .ok (.iload_n 3, 1) := by decide +kernel
theorem dL_law_784 : decode cL_law 784 = .ok (.iconst 2, 1) := by decide +kernel
theorem dL_law_785 : decode cL_law 785 = .ok (.iadd, 1) := by decide +kernel
theorem dL_law_786 : decode cL_law 786 = .ok (.iaload, 1) := by decide +kernel
theorem dL_law_787 : decode cL_law 787 = .ok (.invokevirtual 89, 3) := by decide +kernel
theorem dL_law_790 : decode cL_law 790 = .ok (.aload_n 2, 1) := by decide +kernel
theorem dL_law_791 : decode cL_law 791 = .ok (.aload_n 0, 1) := by decide +kernel
theorem dL_law_792 : decode cL_law 792 = .ok (.iload_n 3, 1) := by decide +kernel
theorem dL_law_793 : decode cL_law 793 = .ok (.iconst 1, 1) := by decide +kernel
theorem dL_law_794 : decode cL_law 794 = .ok (.iadd, 1) := by decide +kernel
theorem dL_law_795 : decode cL_law 795 = .ok (.iaload, 1) := by decide +kernel
theorem dL_law_796 : decode cL_law 796 = .ok (.aload_n 0, 1) := by decide +kernel
theorem dL_law_797 : decode cL_law 797 = .ok (.iload_n 3, 1) := by decide +kernel
theorem dL_law_798 : decode cL_law 798 = .ok (.iconst 2, 1) := by decide +kernel
theorem dL_law_799 : decode cL_law 799 = .ok (.iadd, 1) := by decide +kernel
theorem dL_law_800 : decode cL_law 800 = .ok (.iaload, 1) := by decide +kernel
theorem dL_law_801 : decode cL_law 801 = .ok (.invokevirtual 92, 3) := by decide +kernel
theorem dL_law_804 : decode cL_law 804 = .ok (.if_icmp .eq 146, 3) := by decide +kernel
theorem dL_law_807 : decode cL_law 807 = .ok (.iconst 0, 1) := by decide +kernel
theorem dL_law_808 : decode cL_law 808 = .ok (.ireturn, 1) := by decide +kernel
theorem dL_law_809 : decode cL_law 809 = .ok (.aload_n 1, 1) := by decide +kernel
theorem dL_law_810 : decode cL_law 810 = .ok (.aload_n 0, 1) := by decide +kernel
theorem dL_law_811 : decode cL_law 811 = .ok (.iload_n 3, 1) := by decide +kernel
theorem dL_law_812 : decode cL_law 812 = .ok (.iconst 1, 1) := by decide +kernel
theorem dL_law_813 : decode cL_law 813 = .ok (.iadd, 1) := by decide +kernel
theorem dL_law_814 : decode cL_law 814 = .ok (.iaload, 1) := by decide +kernel
theorem dL_law_815 : decode cL_law 815 = .ok (.invokevirtual 93, 3) := by decide +kernel
theorem dL_law_818 : decode cL_law 818 = .ok (.aload_n 2, 1) := by decide +kernel
theorem dL_law_819 : decode cL_law 819 = .ok (.aload_n 0, 1) := by decide +kernel
theorem dL_law_820 : decode cL_law 820 = .ok (.iload_n 3, 1) := by decide +kernel
theorem dL_law_821 : decode cL_law 821 = .ok (.iconst 1, 1) := by decide +kernel
theorem dL_law_822 : decode cL_law 822 = .ok (.iadd, 1) := by decide +kernel
theorem dL_law_823 : decode cL_law 823 = .ok (.iaload, 1) := by decide +kernel
theorem dL_law_824 : decode cL_law 824 = .ok (.invokevirtual 96, 3) := by decide +kernel
theorem dL_law_827 : decode cL_law 827 = .ok (.if_icmp .eq 123, 3) := by decide +kernel
theorem dL_law_830 : decode cL_law 830 = .ok (.iconst 0, 1) := by decide +kernel
theorem dL_law_831 : decode cL_law 831 = .ok (.ireturn, 1) := by decide +kernel
theorem dL_law_832 : decode cL_law 832 = .ok (.aload_n 1, 1) := by decide +kernel
theorem dL_law_833 : decode cL_law 833 = .ok (.aload_n 0, 1) := by decide +kernel
theorem dL_law_834 : decode cL_law 834 = .ok (.iload_n 3, 1) := by decide +kernel
theorem dL_law_835 : decode cL_law 835 = .ok (.iconst 1, 1) := by decide +kernel
theorem dL_law_836 : decode cL_law 836 = .ok (.iadd, 1) := by decide +kernel
theorem dL_law_837 : decode cL_law 837 = .ok (.iaload, 1) := by decide +kernel
theorem dL_law_838 : decode cL_law 838 = .ok (.invokevirtual 97, 3) := by decide +kernel
theorem dL_law_841 : decode cL_law 841 = .ok (.aload_n 2, 1) := by decide +kernel
theorem dL_law_842 : decode cL_law 842 = .ok (.aload_n 0, 1) := by decide +kernel
theorem dL_law_843 : decode cL_law 843 = .ok (.iload_n 3, 1) := by decide +kernel
theorem dL_law_844 : decode cL_law 844 = .ok (.iconst 1, 1) := by decide +kernel
theorem dL_law_845 : decode cL_law 845 = .ok (.iadd, 1) := by decide +kernel
theorem dL_law_846 : decode cL_law 846 = .ok (.iaload, 1) := by decide +kernel
theorem dL_law_847 : decode cL_law 847 = .ok (.invokevirtual 100, 3) := by decide +kernel
theorem dL_law_850 : decode cL_law 850 = .ok (.if_icmp .eq 100, 3) := by decide +kernel
theorem dL_law_853 : decode cL_law 853 = .ok (.iconst 0, 1) := by decide +kernel
theorem dL_law_854 : decode cL_law 854 = .ok (.ireturn, 1) := by decide +kernel
theorem dL_law_855 : decode cL_law 855 = .ok (.aload_n 1, 1) := by decide +kernel
theorem dL_law_856 : decode cL_law 856 = .ok (.invokevirtual 101, 3) := by decide +kernel
theorem dL_law_859 : decode cL_law 859 = .ok (.aload_n 2, 1) := by decide +kernel
theorem dL_law_860 : decode cL_law 860 = .ok (.invokevirtual 105, 3) := by decide +kernel
theorem dL_law_863 : decode cL_law 863 = .ok (.if_icmp .eq 87, 3) := by decide +kernel
theorem dL_law_866 : decode cL_law 866 = .ok (.iconst 0, 1) := by decide +kernel
theorem dL_law_867 : decode cL_law 867 = .ok (.ireturn, 1) := by decide +kernel
theorem dL_law_868 : decode cL_law 868 = .ok (.aload_n 1, 1) := by decide +kernel
theorem dL_law_869 : decode cL_law 869 = .ok (.aload_n 0, 1) := by decide +kernel
theorem dL_law_870 : decode cL_law 870 = .ok (.iload_n 3, 1) := by decide +kernel
theorem dL_law_871 : decode cL_law 871 = .ok (.iconst 1, 1) := by decide +kernel
theorem dL_law_872 : decode cL_law 872 = .ok (.iadd, 1) := by decide +kernel
theorem dL_law_873 : decode cL_law 873 = .ok (.iaload, 1) := by decide +kernel
theorem dL_law_874 : decode cL_law 874 = .ok (.invokevirtual 106, 3) := by decide +kernel
theorem dL_law_877 : decode cL_law 877 = .ok (.aload_n 2, 1) := by decide +kernel
theorem dL_law_878 : decode cL_law 878 = .ok (.aload_n 0, 1) := by decide +kernel
theorem dL_law_879 : decode cL_law 879 = .ok (.iload_n 3, 1) := by decide +kernel
theorem dL_law_880 : decode cL_law 880 = .ok (.iconst 1, 1) := by decide +kernel
theorem dL_law_881 : decode cL_law 881 = .ok (.iadd, 1) := by decide +kernel
theorem dL_law_882 : decode cL_law 882 = .ok (.iaload, 1) := by decide +kernel
theorem dL_law_883 : decode cL_law 883 = .ok (.invokevirtual 109, 3) := by decide +kernel
theorem dL_law_886 : decode cL_law 886 = .ok (.if_icmp .eq 64, 3) := by decide +kernel
theorem dL_law_889 : decode cL_law 889 = .ok (.iconst 0, 1) := by decide +kernel
theorem dL_law_890 : decode cL_law 890 = .ok (.ireturn, 1) := by decide +kernel
theorem dL_law_891 : decode cL_law 891 = .ok (.aload_n 1, 1) := by decide +kernel
theorem dL_law_892 : decode cL_law 892 = .ok (.aload_n 0, 1) := by decide +kernel
theorem dL_law_893 : decode cL_law 893 = .ok (.iload_n 3, 1) := by decide +kernel
theorem dL_law_894 : decode cL_law 894 = .ok (.iconst 1, 1) := by decide +kernel
theorem dL_law_895 : decode cL_law 895 = .ok (.iadd, 1) := by decide +kernel
theorem dL_law_896 : decode cL_law 896 = .ok (.iaload, 1) := by decide +kernel
theorem dL_law_897 : decode cL_law 897 = .ok (.invokevirtual 110, 3) := by decide +kernel
theorem dL_law_900 : decode cL_law 900 = .ok (.aload_n 2, 1) := by decide +kernel
theorem dL_law_901 : decode cL_law 901 = .ok (.aload_n 0, 1) := by decide +kernel
theorem dL_law_902 : decode cL_law 902 = .ok (.iload_n 3, 1) := by decide +kernel
theorem dL_law_903 : decode cL_law 903 = .ok (.iconst 1, 1) := by decide +kernel
theorem dL_law_904 : decode cL_law 904 = .ok (.iadd, 1) := by decide +kernel
theorem dL_law_905 : decode cL_law 905 = .ok (.iaload, 1) := by decide +kernel
theorem dL_law_906 : decode cL_law 906 = .ok (.invokevirtual 113, 3) := by decide +kernel
theorem dL_law_909 : decode cL_law 909 = .ok (.if_icmp .eq 41, 3) := by decide +kernel
theorem dL_law_912 : decode cL_law 912 = .ok (.iconst 0, 1) := by decide +kernel
theorem dL_law_913 : decode cL_law 913 = .ok (.ireturn, 1) := by decide +kernel
theorem dL_law_914 : decode cL_law 914 = .ok (.aload_n 1, 1) := by decide +kernel
theorem dL_law_915 : decode cL_law 915 = .ok (.aload_n 0, 1) := by decide +kernel
theorem dL_law_916 : decode cL_law 916 = .ok (.iload_n 3, 1) := by decide +kernel
theorem dL_law_917 : decode cL_law 917 = .ok (.iconst 1, 1) := by decide +kernel
theorem dL_law_918 : decode cL_law 918 = .ok (.iadd, 1) := by decide +kernel
theorem dL_law_919 : decode cL_law 919 = .ok (.iaload, 1) := by decide +kernel
theorem dL_law_920 : decode cL_law 920 = .ok (.invokevirtual 114, 3) := by decide +kernel
theorem dL_law_923 : decode cL_law 923 = .ok (.aload_n 2, 1) := by decide +kernel
theorem dL_law_924 : decode cL_law 924 = .ok (.aload_n 0, 1) := by decide +kernel
theorem dL_law_925 : decode cL_law 925 = .ok (.iload_n 3, 1) := by decide +kernel
theorem dL_law_926 : decode cL_law 926 = .ok (.iconst 1, 1) := by decide +kernel
theorem dL_law_927 : decode cL_law 927 = .ok (.iadd, 1) := by decide +kernel
theorem dL_law_928 : decode cL_law 928 = .ok (.iaload, 1) := by decide +kernel
theorem dL_law_929 : decode cL_law 929 = .ok (.invokevirtual 117, 3) := by decide +kernel
theorem dL_law_932 : decode cL_law 932 = .ok (.if_icmp .eq 18, 3) := by decide +kernel
theorem dL_law_935 : decode cL_law 935 = .ok (.iconst 0, 1) := by decide +kernel
theorem dL_law_936 : decode cL_law 936 = .ok (.ireturn, 1) := by decide +kernel
theorem dL_law_937 : decode cL_law 937 = .ok (.aload_n 1, 1) := by decide +kernel
theorem dL_law_938 : decode cL_law 938 = .ok (.invokevirtual 118, 3) := by decide +kernel
theorem dL_law_941 : decode cL_law 941 = .ok (.aload_n 2, 1) := by decide +kernel
theorem dL_law_942 : decode cL_law 942 = .ok (.invokevirtual 121, 3) := by decide +kernel
theorem dL_law_945 : decode cL_law 945 = .ok (.if_icmp .eq 5, 3) := by decide +kernel
theorem dL_law_948 : decode cL_law 948 = .ok (.iconst 0, 1) := by decide +kernel
theorem dL_law_949 : decode cL_law 949 = .ok (.ireturn, 1) := by decide +kernel
theorem dL_law_950 : decode cL_law 950 = .ok (.iinc 3 5, 3) := by decide +kernel
theorem dL_law_953 : decode cL_law 953 = .ok (.goto (-935), 3) := by decide +kernel
theorem dL_law_956 : decode cL_law 956 = .ok (.iconst 1, 1) := by decide +kernel
theorem dL_law_957 : decode cL_law 957 = .ok (.ireturn, 1) := by decide +kernel
end
section
/-! ===== my own judgement: methods that make nothing, over a fixed layout of cells, a memory of ints and longs ===== -/
def tbG : List Cond := lw_tbl.filter goodWord
theorem tbG_of {w : Cond} (h : w ∈ lw_tbl) (g : goodWord w = true) : w ∈ tbG := List.mem_filter.mpr ⟨h, g⟩
theorem tbG_in {w : Cond} (h : w ∈ tbG) : w ∈ lw_tbl := (List.mem_filter.mp h).1
theorem gi_tb {c w0 : Cond} (h : w0 ∈ tbG) : GoodIn (c :: tbG) (w0 :: tbG) := by
  intro w hw
  have hb : w ∈ tbG := by
    rcases List.mem_cons.mp hw with e | e
    · rw [e]; exact h
    · exact e
  exact ⟨List.mem_cons_of_mem _ hb, good_of_word (List.mem_filter.mp hb).2⟩
abbrev Mm : Type := (Nat → Nat → Int32) × (Nat → Nat → Int64)
/-- a cell of the layout: an object (class number, its fields: a reference to a cell, or an int), an array of ints (0) or booleans (1) of a length, an array of longs, an array of references -/
abbrev LC : Type := (Nat × List (Option Nat)) ⊕ ((Nat × Nat) ⊕ (Nat ⊕ (List Nat)))
def flV (D : Nat → Nat) (M : Mm) (k : Nat) : Nat → List (Option Nat) → List Value
  | _, [] => []
  | j, some r :: t => .ref (D r) :: flV D M k (j + 1) t
  | j, none :: t => .int (M.1 k j) :: flV D M k (j + 1) t
def ceV (tc : Nat → ClassId) (D : Nat → Nat) (M : Mm) (k : Nat) : LC → va_E
  | .inl q => .inr (q.1, flV D M k 0 q.2)
  | .inr (.inl q) => .inl (tc q.1, q.2, .inl (M.1 k))
  | .inr (.inr (.inl n)) => .inl (tc 2, n, .inr (.inl (M.2 k)))
  | .inr (.inr (.inr rs)) => .inl (tc 3, rs.length, .inr (.inr (.inr (.inr (fun i => (rs[i]?).map D)))))
def mkW (tc : Nat → ClassId) (D : Nat → Nat) (M : Mm) : Nat → List LC → va_W
  | _, [] => []
  | k, c :: t => (D k, ceV tc D M k c) :: mkW tc D M (k + 1) t
theorem mkW_get (tc : Nat → ClassId) (D : Nat → Nat) (M : Mm) : ∀ (L : List LC) (k0 i : Nat), (mkW tc D M k0 L)[i]? = (L[i]?).map (fun c => (D (k0 + i), ceV tc D M (k0 + i) c))
  | [], k0, i => by simp [mkW]
  | c :: t, k0, 0 => by simp [mkW]
  | c :: t, k0, i + 1 => by
    have h := mkW_get tc D M t (k0 + 1) i
    simp only [mkW, List.getElem?_cons_succ, h]
    rw [show k0 + 1 + i = k0 + (i + 1) by omega]
theorem mkW_at {tc : Nat → ClassId} {D : Nat → Nat} {M : Mm} {L : List LC} {k : Nat} {c : LC} (h : L[k]? = some c) : (mkW tc D M 0 L)[k]? = some (D k, ceV tc D M k c) := by
  rw [mkW_get, h]; simp
theorem mkW_set {tc : Nat → ClassId} {D : Nat → Nat} {M M' : Mm} {L : List LC} {k : Nat} {c : LC} {e : va_E} (h : L[k]? = some c) (he : e = ceV tc D M' k c) (ho : ∀ a, a ≠ k → ∀ x, ceV tc D M a x = ceV tc D M' a x) : (mkW tc D M 0 L).set k (D k, e) = mkW tc D M' 0 L := by
  subst he
  apply List.ext_getElem?
  intro i
  by_cases hi : i = k
  · subst hi
    rw [List.getElem?_set_self (by
      have := (List.getElem?_eq_some_iff.mp (mkW_at (tc := tc) (D := D) (M := M) h)).1
      exact this), mkW_at h]
  · rw [List.getElem?_set_ne (Ne.symm hi), mkW_get, mkW_get]
    cases L[i]? with
    | none => rfl
    | some x => simp [ho i hi x]
def up1 (M : Mm) (k j : Nat) (v : Int32) : Mm := (fun a => if a = k then upd (M.1 k) j v else M.1 a, M.2)
def up2 (M : Mm) (k j : Nat) (v : Int64) : Mm := (M.1, fun a => if a = k then vp_updL (M.2 k) j v else M.2 a)
theorem flV_congr {D : Nat → Nat} {M M' : Mm} {k : Nat} : ∀ (fs : List (Option Nat)) (j : Nat), (∀ i, M.1 k i = M'.1 k i) → flV D M k j fs = flV D M' k j fs
  | [], _, _ => rfl
  | some r :: t, j, h => by simp only [flV]; rw [flV_congr t (j + 1) h]
  | none :: t, j, h => by simp only [flV]; rw [flV_congr t (j + 1) h, h j]
theorem ceV_congr {tc : Nat → ClassId} {D : Nat → Nat} {M M' : Mm} {k : Nat} (h1 : M.1 k = M'.1 k) (h2 : M.2 k = M'.2 k) (x : LC) : ceV tc D M k x = ceV tc D M' k x := by
  match x with
  | .inl q => simp only [ceV]; rw [flV_congr (M' := M') q.2 0 (fun i => by rw [h1])]
  | .inr (.inl q) => simp only [ceV, h1]
  | .inr (.inr (.inl n)) => simp only [ceV, h2]
  | .inr (.inr (.inr rs)) => rfl
theorem up1_o {M : Mm} {k j : Nat} {v : Int32} {tc : Nat → ClassId} {D : Nat → Nat} : ∀ a, a ≠ k → ∀ x, ceV tc D M a x = ceV tc D (up1 M k j v) a x :=
  fun a ha x => ceV_congr (M := M) (k := a) (M' := up1 M k j v) (by simp [up1, ha]) rfl x
theorem up2_o {M : Mm} {k j : Nat} {v : Int64} {tc : Nat → ClassId} {D : Nat → Nat} : ∀ a, a ≠ k → ∀ x, ceV tc D M a x = ceV tc D (up2 M k j v) a x :=
  fun a ha x => ceV_congr (M := M) (k := a) (M' := up2 M k j v) rfl (by simp [up2, ha]) x
theorem flV_get {D : Nat → Nat} {M : Mm} {k : Nat} : ∀ (fs : List (Option Nat)) (j0 j : Nat), (flV D M k j0 fs)[j]? = (fs[j]?).map (fun o => match o with | some r => .ref (D r) | none => .int (M.1 k (j0 + j)))
  | [], _, _ => by simp [flV]
  | some r :: t, j0, 0 => by simp [flV]
  | none :: t, j0, 0 => by simp [flV]
  | some r :: t, j0, j + 1 => by
    have h := flV_get (D := D) (M := M) (k := k) t (j0 + 1) j
    simp only [flV, List.getElem?_cons_succ, h]
    rw [show j0 + 1 + j = j0 + (j + 1) by omega]
  | none :: t, j0, j + 1 => by
    have h := flV_get (D := D) (M := M) (k := k) t (j0 + 1) j
    simp only [flV, List.getElem?_cons_succ, h]
    rw [show j0 + 1 + j = j0 + (j + 1) by omega]
theorem flV_len {D : Nat → Nat} {M : Mm} {k : Nat} : ∀ (fs : List (Option Nat)) (j0 : Nat), (flV D M k j0 fs).length = fs.length
  | [], _ => rfl
  | some r :: t, j0 => by simp [flV, flV_len t (j0 + 1)]
  | none :: t, j0 => by simp [flV, flV_len t (j0 + 1)]
theorem flV_set {D : Nat → Nat} {M : Mm} {k j : Nat} {v : Int32} {fs : List (Option Nat)} (h : fs[j]? = some none) : (flV D M k 0 fs).set j (.int v) = flV D (up1 M k j v) k 0 fs := by
  apply List.ext_getElem?
  intro i
  by_cases hi : i = j
  · subst hi
    have hl : i < fs.length := (List.getElem?_eq_some_iff.mp h).1
    rw [List.getElem?_set_self (by rw [flV_len]; exact hl), flV_get, h]
    simp [up1, upd]
  · rw [List.getElem?_set_ne (Ne.symm hi), flV_get, flV_get]
    cases fs[i]? with
    | none => rfl
    | some o =>
      cases o with
      | some r => rfl
      | none => simp [up1, upd, hi]
def inA (D : Nat → Nat) (L : List LC) : Nat → Prop := fun q => ∃ k, k < L.length ∧ q = D k
def JJ (D : Nat → Nat) (L : List LC) : Prop := ∀ i j, i < L.length → j < L.length → D i = D j → i = j
theorem mkW_D {tc : Nat → ClassId} {D : Nat → Nat} {M : Mm} {L : List LC} (hJ : JJ D L) : va_D (inA D L) (mkW tc D M 0 L) := by
  have key : ∀ (i : Nat) (q : Nat × va_E), (mkW tc D M 0 L)[i]? = some q → i < L.length ∧ q.1 = D i := by
    intro i q h
    rw [mkW_get] at h
    cases hc : L[i]? with
    | none => rw [hc] at h; cases h
    | some c =>
      rw [hc] at h
      simp at h
      exact ⟨(List.getElem?_eq_some_iff.mp hc).1, by rw [← h]⟩
  refine ⟨fun i j x y hi hj hxy => ?_, fun k q hk => ?_⟩
  · obtain ⟨a1, a2⟩ := key i x hi
    obtain ⟨b1, b2⟩ := key j y hj
    exact hJ i j a1 b1 (by rw [← a2, ← b2, hxy])
  · obtain ⟨a1, a2⟩ := key k q hk
    exact ⟨k, a1, a2⟩
def cv (D : Nat → Nat) : Value → Value
  | .ref r => .ref (D r)
  | v => v
theorem cv_cat (D : Nat → Nat) (v : Value) : (cv D v).category = v.category := by cases v <;> rfl
/-- locals -/
def lvH (D : Nat → Nat) (ls : Array Slot) (nL : Nat) (lv : List (Option Value)) : Prop := ls.size = nL ∧ lv_wf ls ∧ ∀ (i : Nat) (v : Value), lv[i]? = some (some v) → ls[i]? = some (.val (cv D v))
def tgV (D : Nat → Nat) : Nat → List (Option Value) → List (Nat × Value)
  | _, [] => []
  | i, some v :: t => (i, cv D v) :: tgV D (i + 1) t
  | i, none :: t => tgV D (i + 1) t
theorem tgV_in {D : Nat → Nat} : ∀ (lv : List (Option Value)) (k : Nat) (q : Nat × Value), q ∈ tgV D k lv ↔ ∃ (i : Nat) (v : Value), lv[i]? = some (some v) ∧ q = (k + i, cv D v)
  | [], k, q => by simp [tgV]
  | some v :: t, k, q => by
    simp only [tgV, List.mem_cons, tgV_in t (k + 1) q]
    constructor
    · rintro (h | ⟨i, w, h1, h2⟩)
      · exact ⟨0, v, by simp, by simpa using h⟩
      · exact ⟨i + 1, w, by simpa using h1, by rw [h2]; congr 1; omega⟩
    · rintro ⟨i, w, h1, h2⟩
      cases i with
      | zero => left; simp at h1; subst h1; simpa using h2
      | succ i => right; exact ⟨i, w, by simpa using h1, by rw [h2]; congr 1; omega⟩
  | none :: t, k, q => by
    simp only [tgV, tgV_in t (k + 1) q]
    constructor
    · rintro ⟨i, w, h1, h2⟩
      exact ⟨i + 1, w, by simpa using h1, by rw [h2]; congr 1; omega⟩
    · rintro ⟨i, w, h1, h2⟩
      cases i with
      | zero => simp at h1
      | succ i => exact ⟨i, w, by simpa using h1, by rw [h2]; congr 1; omega⟩
theorem lvH_has {D : Nat → Nat} {ls : Array Slot} {nL : Nat} {lv : List (Option Value)} (h : lvH D ls nL lv) : lv_has ls nL (tgV D 0 lv) := by
  refine ⟨h.1, h.2.1, fun q hq => ?_⟩
  obtain ⟨i, v, h1, h2⟩ := (tgV_in lv 0 q).mp hq
  subst h2
  have := h.2.2 i v h1
  simpa using this
/-- no long ends at the place -/
def noLg (lv : List (Option Value)) : Nat → Bool
  | 0 => true
  | j + 1 => match lv[j]? with
    | some (some (.long _)) => false
    | some (some (.double _)) => false
    | _ => true
theorem noLg_use {D : Nat → Nat} {lv : List (Option Value)} {i j : Nat} {w : Value} (h : noLg lv i = true) (hj : lv[j]? = some (some w)) (e : j + 1 = i) : ¬ (cv D w).category = 2 := by
  subst e
  intro hc
  rw [cv_cat] at hc
  simp only [noLg, hj] at h
  cases w <;> simp [Value.category] at hc h
theorem lvH_st1 {D : Nat → Nat} {ls' : Array Slot} {nL i : Nat} {lv : List (Option Value)} {v : Value} (hn : noLg lv i = true) (h : lv_has ls' nL ((i, cv D v) :: (tgV D 0 lv).filter (fun q => !(q.1 == i) && !(q.1 + 1 == i && q.2.category == 2)))) : lvH D ls' nL (lv.set i (some v)) := by
  refine ⟨h.1, h.2.1, fun j w hj => ?_⟩
  by_cases hi : i = j
  · subst hi
    by_cases hl : i < lv.length
    · rw [List.getElem?_set_self hl] at hj
      cases hj
      exact h.2.2 (i, cv D v) List.mem_cons_self
    · rw [List.getElem?_eq_none (by simp; omega)] at hj
      cases hj
  · rw [List.getElem?_set_ne hi] at hj
    refine h.2.2 (j, cv D w) (List.mem_cons_of_mem _ (List.mem_filter.mpr ⟨(tgV_in lv 0 _).mpr ⟨j, w, hj, by simp⟩, ?_⟩))
    simp only [Bool.and_eq_true, Bool.not_eq_true', beq_eq_false_iff_ne, ne_eq]
    refine ⟨fun e => hi e.symm, ?_⟩
    by_cases e : j + 1 = i
    · have := noLg_use (D := D) hn hj e
      simp [this]
    · simp [e]
theorem lvH_st2 {D : Nat → Nat} {ls' : Array Slot} {nL i : Nat} {lv : List (Option Value)} {v : Value} (hn : noLg lv i = true) (h : lv_has ls' nL ((i, cv D v) :: (tgV D 0 lv).filter (fun q => !(q.1 == i) && (!(q.1 == i + 1) && !(q.1 + 1 == i && q.2.category == 2))))) : lvH D ls' nL ((lv.set i (some v)).set (i + 1) none) := by
  refine ⟨h.1, h.2.1, fun j w hj => ?_⟩
  by_cases h1 : i + 1 = j
  · subst h1
    by_cases hl : i + 1 < (lv.set i (some v)).length
    · rw [List.getElem?_set_self hl] at hj
      cases hj
    · rw [List.getElem?_eq_none (by simp at hl ⊢; omega)] at hj
      cases hj
  · rw [List.getElem?_set_ne h1] at hj
    by_cases hi : i = j
    · subst hi
      by_cases hl : i < lv.length
      · rw [List.getElem?_set_self hl] at hj
        cases hj
        exact h.2.2 (i, cv D v) List.mem_cons_self
      · rw [List.getElem?_eq_none (by simp; omega)] at hj
        cases hj
    · rw [List.getElem?_set_ne hi] at hj
      refine h.2.2 (j, cv D w) (List.mem_cons_of_mem _ (List.mem_filter.mpr ⟨(tgV_in lv 0 _).mpr ⟨j, w, hj, by simp⟩, ?_⟩))
      simp only [Bool.and_eq_true, Bool.not_eq_true', beq_eq_false_iff_ne, ne_eq]
      refine ⟨fun e => hi e.symm, fun e => h1 e.symm, ?_⟩
      by_cases e : j + 1 = i
      · have := noLg_use (D := D) hn hj e
        simp [this]
      · simp [e]
/-- a method's start: its locals -/
def entL (n : Nat) : List Value → List (Option Value)
  | [] => List.replicate n none
  | v :: t => if v.category = 2 then some v :: none :: entL (n - 2) t else some v :: entL (n - 1) t
theorem entL_in {D : Nat → Nat} : ∀ (vs : List Value) (n k i : Nat) (v : Value), (entL n vs)[i]? = some (some v) → (k + i, cv D v) ∈ lv_args k (vs.map (cv D))
  | [], n, k, i, v, h => by
    simp only [entL, List.getElem?_replicate] at h
    split at h <;> cases h
  | w :: t, n, k, i, v, h => by
    simp only [entL] at h
    simp only [List.map_cons, lv_args, cv_cat]
    by_cases hc : w.category = 2
    · rw [if_pos hc] at h
      rw [if_pos hc]
      match i, h with
      | 0, h => simp at h; subst h; exact List.mem_cons_self
      | 1, h => simp at h
      | i + 2, h =>
        simp at h
        have := entL_in (D := D) t (n - 2) (k + 2) i v h
        rw [show k + (i + 2) = k + 2 + i by omega]
        exact List.mem_cons_of_mem _ this
    · rw [if_neg hc] at h
      rw [if_neg hc]
      match i, h with
      | 0, h => simp at h; subst h; exact List.mem_cons_self
      | i + 1, h =>
        simp at h
        have := entL_in (D := D) t (n - 1) (k + 1) i v h
        rw [show k + (i + 1) = k + 1 + i by omega]
        exact List.mem_cons_of_mem _ this
end
section
/-! ===== the judgement WP: from a place in a method, with locals, stack, memory, the machine comes to a place that Q names ===== -/
def tysV (tc : Nat → ClassId) : List (ClassId × FieldType) := [(tc 0, .int), (tc 1, .boolean), (tc 2, .long), (tc 3, .array .int)]
def nestM : List (String × Nat × MethodName × String) := tables_1.filterMap (fun w => match w with
  | .methodLinkNest a i x h => some (a, i, x, h)
  | _ => none)
def nwV (U : State) : Prop := ∀ x ∈ nestM, va_Nw (.methodLinkNest x.1 x.2.1 x.2.2.1 x.2.2.2) U
theorem nwV_warm {s U : State} (hW : s.WarmedH U.vm) (h : nwV s) : nwV U := fun x hx => va_Nw.warmM hW (h x hx)
theorem nwV_same {u U : State} (e : u.vm = U.vm) (h : nwV u) : nwV U := fun x hx => va_Nw.same rfl e (h x hx)
def Cx (G : va_G) (tc : Nat → ClassId) (D : Nat → Nat) (L : List LC) (EX : State → Prop) (own : String) (cc : ByteArray) (nL : Nat) (rm : Room) (wc : Cond) (p : Program) (s : State) (m : MethodId) (args : Array Value) (c : Code) (cells slots : Nat) : Prop :=
  p.tables.exec = Jvm.exec ∧ c.code = cc ∧ c.maxLocals = nL ∧ s.vm.findClass own = some m.cls ∧ (∀ w ∈ wc :: tbG, w.before args s = true) ∧ va_K G vwCl (tysV tc) s ∧ nwV s ∧ EX s ∧ JJ D L ∧ cells ≤ rm.cells ∧ slots ≤ rm.slots
def Hx (G : va_G) (tc : Nat → ClassId) (D : Nat → Nat) (L : List LC) (nL : Nat) (s : State) (lv : List (Option Value)) (M : Mm) (H : Heap) (locs : List Loc) (ls : Array Slot) : Prop :=
  va_P G vwCl (mkW tc D M 0 L) H ∧ va_S (inA D L) s.heap H locs ∧ lvH D ls nL lv
def WP (l : Launch) (G : va_G) (tc : Nat → ClassId) (D : Nat → Nat) (L : List LC) (EX : State → Prop) (own : String) (cc : ByteArray) (nL : Nat) (rm : Room) (wc : Cond) (pc : Nat) (lv : List (Option Value)) (st : List Value) (M : Mm) (Q : Nat → List (Option Value) → List Value → Mm → Prop) : Prop :=
  ∀ (p : Program) (e : Env) (s : State) (m : MethodId) (args : Array Value) (below : List Frame) (meth : Method) (c : Code) (cells slots : Nat) (Z : State → Prop), Cx G tc D L EX own cc nL rm wc p s m args c cells slots →
    (∀ (pc' : Nat) (lv' : List (Option Value)) (st' : List Value) (M' : Mm) (H' : Heap) (locs' : List Loc) (ls' : Array Slot), Q pc' lv' st' M' → Hx G tc D L nL s lv' M' H' locs' ls' → W p l e rm s m args below meth c H' locs' cells slots Z (F0 m pc' ls' (st'.map (cv D)))) →
    ∀ (H : Heap) (locs : List Loc) (ls : Array Slot), Hx G tc D L nL s lv M H locs ls → W p l e rm s m args below meth c H locs cells slots Z (F0 m pc ls (st.map (cv D)))
section WPR
variable {l : Launch} {G : va_G} {tc : Nat → ClassId} {D : Nat → Nat} {L : List LC} {EX : State → Prop} {own : String} {cc : ByteArray} {nL : Nat} {rm : Room} {wc : Cond} {pc : Nat} {lv : List (Option Value)} {st : List Value} {M : Mm} {Q : Nat → List (Option Value) → List Value → Mm → Prop}
theorem WP.done (h : Q pc lv st M) : WP l G tc D L EX own cc nL rm wc pc lv st M Q :=
  fun p e s m args below meth c cells slots Z hC hQ H locs ls hH => hQ pc lv st M H locs ls h hH
theorem WP.mono {Q' : Nat → List (Option Value) → List Value → Mm → Prop} (h : WP l G tc D L EX own cc nL rm wc pc lv st M Q') (hq : ∀ a b c d, Q' a b c d → Q a b c d) : WP l G tc D L EX own cc nL rm wc pc lv st M Q :=
  fun p e s m args below meth c cells slots Z hC hQ H locs ls hH => h p e s m args below meth c cells slots Z hC (fun a b c' d H' l' ls' hh => hQ a b c' d H' l' ls' (hq _ _ _ _ hh)) H locs ls hH
theorem WP.iconst {n : Int} {v : Int32} (hd : decode cc pc = .ok (.iconst n, 1)) (hv : Int32.ofInt n = v) (k : WP l G tc D L EX own cc nL rm wc (pc + 1) lv (.int v :: st) M Q) : WP l G tc D L EX own cc nL rm wc pc lv st M Q :=
  fun p e s m args below meth c cells slots Z hC hQ H locs ls hH => lv_iconst hC.1 hC.2.1 hd hv (k p e s m args below meth c cells slots Z hC hQ H locs ls hH)
theorem WP.bipush {n : Int} {v : Int32} (hd : decode cc pc = .ok (.bipush n, 2)) (hv : (Int8.ofInt n).toInt32 = v) (k : WP l G tc D L EX own cc nL rm wc (pc + 2) lv (.int v :: st) M Q) : WP l G tc D L EX own cc nL rm wc pc lv st M Q :=
  fun p e s m args below meth c cells slots Z hC hQ H locs ls hH => lv_bipush hC.1 hC.2.1 hd hv (k p e s m args below meth c cells slots Z hC hQ H locs ls hH)
theorem WP.sipush {n : Int} {v : Int32} (hd : decode cc pc = .ok (.sipush n, 3)) (hv : (Int16.ofInt n).toInt32 = v) (k : WP l G tc D L EX own cc nL rm wc (pc + 3) lv (.int v :: st) M Q) : WP l G tc D L EX own cc nL rm wc pc lv st M Q :=
  fun p e s m args below meth c cells slots Z hC hQ H locs ls hH => lv_sipush hC.1 hC.2.1 hd hv (k p e s m args below meth c cells slots Z hC hQ H locs ls hH)
theorem WP.lconst {n : Fin 2} {v : Int64} (hd : decode cc pc = .ok (.lconst n, 1)) (hv : Int64.ofNat (n : Nat) = v) (k : WP l G tc D L EX own cc nL rm wc (pc + 1) lv (.long v :: st) M Q) : WP l G tc D L EX own cc nL rm wc pc lv st M Q :=
  fun p e s m args below meth c cells slots Z hC hQ H locs ls hH => lv_lconst hC.1 hC.2.1 hd hv (k p e s m args below meth c cells slots Z hC hQ H locs ls hH)
theorem WP.ldc {index : Nat} {v : Int32} (hd : decode cc pc = .ok (.ldc index, 2)) (hw : Cond.constant own index v ∈ tbG) (k : WP l G tc D L EX own cc nL rm wc (pc + 2) lv (.int v :: st) M Q) : WP l G tc D L EX own cc nL rm wc pc lv st M Q :=
  fun p e s m args below meth c cells slots Z hC hQ H locs ls hH => lv_ldc hC.1 hC.2.1 hC.2.2.2.1 (hC.2.2.2.2.1 _ (List.mem_cons_of_mem _ hw)) hd (k p e s m args below meth c cells slots Z hC hQ H locs ls hH)
theorem WP.ldcw {index : Nat} {v : Int32} (hd : decode cc pc = .ok (.ldc_w index, 3)) (hw : Cond.constant own index v ∈ tbG) (k : WP l G tc D L EX own cc nL rm wc (pc + 3) lv (.int v :: st) M Q) : WP l G tc D L EX own cc nL rm wc pc lv st M Q :=
  fun p e s m args below meth c cells slots Z hC hQ H locs ls hH => lv_ldcw hC.1 hC.2.1 hC.2.2.2.1 (hC.2.2.2.2.1 _ (List.mem_cons_of_mem _ hw)) hd (k p e s m args below meth c cells slots Z hC hQ H locs ls hH)
theorem WP.ldc2 {index : Nat} {v : Int64} (hd : decode cc pc = .ok (.ldc2_w index, 3)) (hw : Cond.constantLong own index v ∈ tbG) (k : WP l G tc D L EX own cc nL rm wc (pc + 3) lv (.long v :: st) M Q) : WP l G tc D L EX own cc nL rm wc pc lv st M Q :=
  fun p e s m args below meth c cells slots Z hC hQ H locs ls hH => lv_ldc2 hC.1 hC.2.1 hC.2.2.2.1 (hC.2.2.2.2.1 _ (List.mem_cons_of_mem _ hw)) hd (k p e s m args below meth c cells slots Z hC hQ H locs ls hH)
theorem WP.iload_n {n : Fin 4} {i : Nat} {x : Int32} (hd : decode cc pc = .ok (.iload_n n, 1)) (hi : (n : Nat) = i) (hl : lv[i]? = some (some (.int x))) (k : WP l G tc D L EX own cc nL rm wc (pc + 1) lv (.int x :: st) M Q) : WP l G tc D L EX own cc nL rm wc pc lv st M Q :=
  fun p e s m args below meth c cells slots Z hC hQ H locs ls hH => lv_iload_n hC.1 hC.2.1 hd hi (hH.2.2.2.2 i (.int x) hl) (k p e s m args below meth c cells slots Z hC hQ H locs ls hH)
theorem WP.iload {i : Nat} {x : Int32} (hd : decode cc pc = .ok (.iload i, 2)) (hl : lv[i]? = some (some (.int x))) (k : WP l G tc D L EX own cc nL rm wc (pc + 2) lv (.int x :: st) M Q) : WP l G tc D L EX own cc nL rm wc pc lv st M Q :=
  fun p e s m args below meth c cells slots Z hC hQ H locs ls hH => lv_iload hC.1 hC.2.1 hd (hH.2.2.2.2 i (.int x) hl) (k p e s m args below meth c cells slots Z hC hQ H locs ls hH)
theorem WP.lload_n {n : Fin 4} {i : Nat} {x : Int64} (hd : decode cc pc = .ok (.lload_n n, 1)) (hi : (n : Nat) = i) (hl : lv[i]? = some (some (.long x))) (k : WP l G tc D L EX own cc nL rm wc (pc + 1) lv (.long x :: st) M Q) : WP l G tc D L EX own cc nL rm wc pc lv st M Q :=
  fun p e s m args below meth c cells slots Z hC hQ H locs ls hH => lv_lload_n hC.1 hC.2.1 hd hi (hH.2.2.2.2 i (.long x) hl) (k p e s m args below meth c cells slots Z hC hQ H locs ls hH)
theorem WP.lload {i : Nat} {x : Int64} (hd : decode cc pc = .ok (.lload i, 2)) (hl : lv[i]? = some (some (.long x))) (k : WP l G tc D L EX own cc nL rm wc (pc + 2) lv (.long x :: st) M Q) : WP l G tc D L EX own cc nL rm wc pc lv st M Q :=
  fun p e s m args below meth c cells slots Z hC hQ H locs ls hH => lv_lload hC.1 hC.2.1 hd (hH.2.2.2.2 i (.long x) hl) (k p e s m args below meth c cells slots Z hC hQ H locs ls hH)
theorem WP.aload_n {n : Fin 4} {i x : Nat} (hd : decode cc pc = .ok (.aload_n n, 1)) (hi : (n : Nat) = i) (hl : lv[i]? = some (some (.ref x))) (k : WP l G tc D L EX own cc nL rm wc (pc + 1) lv (.ref x :: st) M Q) : WP l G tc D L EX own cc nL rm wc pc lv st M Q :=
  fun p e s m args below meth c cells slots Z hC hQ H locs ls hH => lv_aload_n hC.1 hC.2.1 hd hi (hH.2.2.2.2 i (.ref x) hl) (k p e s m args below meth c cells slots Z hC hQ H locs ls hH)
theorem WP.aload {i x : Nat} (hd : decode cc pc = .ok (.aload i, 2)) (hl : lv[i]? = some (some (.ref x))) (k : WP l G tc D L EX own cc nL rm wc (pc + 2) lv (.ref x :: st) M Q) : WP l G tc D L EX own cc nL rm wc pc lv st M Q :=
  fun p e s m args below meth c cells slots Z hC hQ H locs ls hH => lv_aload hC.1 hC.2.1 hd (hH.2.2.2.2 i (.ref x) hl) (k p e s m args below meth c cells slots Z hC hQ H locs ls hH)
theorem WP.istore_n {n : Fin 4} {i : Nat} {x : Int32} {lv' : List (Option Value)} (hd : decode cc pc = .ok (.istore_n n, 1)) (hi : (n : Nat) = i) (hn : i < nL) (hg : noLg lv i = true) (he : lv.set i (some (.int x)) = lv') (k : WP l G tc D L EX own cc nL rm wc (pc + 1) lv' st M Q) : WP l G tc D L EX own cc nL rm wc pc lv (.int x :: st) M Q :=
  fun p e s m args below meth c cells slots Z hC hQ H locs ls hH => lv_istore_n hC.1 hC.2.1 hd hi (lvH_has hH.2.2) hn rfl (fun ls' hl' => k p e s m args below meth c cells slots Z hC hQ H locs ls' ⟨hH.1, hH.2.1, he ▸ lvH_st1 (v := .int x) hg hl'⟩)
theorem WP.istore {i : Nat} {x : Int32} {lv' : List (Option Value)} (hd : decode cc pc = .ok (.istore i, 2)) (hn : i < nL) (hg : noLg lv i = true) (he : lv.set i (some (.int x)) = lv') (k : WP l G tc D L EX own cc nL rm wc (pc + 2) lv' st M Q) : WP l G tc D L EX own cc nL rm wc pc lv (.int x :: st) M Q :=
  fun p e s m args below meth c cells slots Z hC hQ H locs ls hH => lv_istore hC.1 hC.2.1 hd (lvH_has hH.2.2) hn rfl (fun ls' hl' => k p e s m args below meth c cells slots Z hC hQ H locs ls' ⟨hH.1, hH.2.1, he ▸ lvH_st1 (v := .int x) hg hl'⟩)
theorem WP.astore_n {n : Fin 4} {i x : Nat} {lv' : List (Option Value)} (hd : decode cc pc = .ok (.astore_n n, 1)) (hi : (n : Nat) = i) (hn : i < nL) (hg : noLg lv i = true) (he : lv.set i (some (.ref x)) = lv') (k : WP l G tc D L EX own cc nL rm wc (pc + 1) lv' st M Q) : WP l G tc D L EX own cc nL rm wc pc lv (.ref x :: st) M Q :=
  fun p e s m args below meth c cells slots Z hC hQ H locs ls hH => lv_astore_n hC.1 hC.2.1 hd hi (lvH_has hH.2.2) hn rfl (fun ls' hl' => k p e s m args below meth c cells slots Z hC hQ H locs ls' ⟨hH.1, hH.2.1, he ▸ lvH_st1 (v := .ref x) hg hl'⟩)
theorem WP.lstore_n {n : Fin 4} {i : Nat} {x : Int64} {lv' : List (Option Value)} (hd : decode cc pc = .ok (.lstore_n n, 1)) (hi : (n : Nat) = i) (hn : i + 1 < nL) (hg : noLg lv i = true) (he : (lv.set i (some (.long x))).set (i + 1) none = lv') (k : WP l G tc D L EX own cc nL rm wc (pc + 1) lv' st M Q) : WP l G tc D L EX own cc nL rm wc pc lv (.long x :: st) M Q :=
  fun p e s m args below meth c cells slots Z hC hQ H locs ls hH => lv_lstore_n hC.1 hC.2.1 hd hi (lvH_has hH.2.2) hn rfl (fun ls' hl' => k p e s m args below meth c cells slots Z hC hQ H locs ls' ⟨hH.1, hH.2.1, he ▸ lvH_st2 (v := .long x) hg hl'⟩)
theorem WP.lstore {i : Nat} {x : Int64} {lv' : List (Option Value)} (hd : decode cc pc = .ok (.lstore i, 2)) (hn : i + 1 < nL) (hg : noLg lv i = true) (he : (lv.set i (some (.long x))).set (i + 1) none = lv') (k : WP l G tc D L EX own cc nL rm wc (pc + 2) lv' st M Q) : WP l G tc D L EX own cc nL rm wc pc lv (.long x :: st) M Q :=
  fun p e s m args below meth c cells slots Z hC hQ H locs ls hH => lv_lstore hC.1 hC.2.1 hd (lvH_has hH.2.2) hn rfl (fun ls' hl' => k p e s m args below meth c cells slots Z hC hQ H locs ls' ⟨hH.1, hH.2.1, he ▸ lvH_st2 (v := .long x) hg hl'⟩)
theorem WP.iinc {i : Nat} {n : Int} {x v : Int32} {lv' : List (Option Value)} (hd : decode cc pc = .ok (.iinc i n, 3)) (hl : lv[i]? = some (some (.int x))) (hv : x + Int32.ofInt n = v) (hn : i < nL) (hg : noLg lv i = true) (he : lv.set i (some (.int v)) = lv') (k : WP l G tc D L EX own cc nL rm wc (pc + 3) lv' st M Q) : WP l G tc D L EX own cc nL rm wc pc lv st M Q := by
  intro p e s m args below meth c cells slots Z hC hQ H locs ls hH
  obtain ⟨j, hj⟩ := List.getElem?_of_mem ((tgV_in (D := D) lv 0 (i, .int x)).mpr ⟨i, .int x, hl, by simp [cv]⟩)
  exact lv_iinc hC.1 hC.2.1 hd (lvH_has hH.2.2) hj hv hn rfl (fun ls' hl' => k p e s m args below meth c cells slots Z hC hQ H locs ls' ⟨hH.1, hH.2.1, he ▸ lvH_st1 (v := .int v) hg hl'⟩)
theorem WP.goto {off : Int} {tgt : Nat} (hd : decode cc pc = .ok (.goto off, 3)) (ht : (pc : Int) + off = (tgt : Int)) (k : WP l G tc D L EX own cc nL rm wc tgt lv st M Q) : WP l G tc D L EX own cc nL rm wc pc lv st M Q :=
  fun p e s m args below meth c cells slots Z hC hQ H locs ls hH => lv_goto hC.1 hC.2.1 hd ht (k p e s m args below meth c cells slots Z hC hQ H locs ls hH)
theorem WP.dup {v : Value} (hd : decode cc pc = .ok (.dup, 1)) (hv : v.category = 1) (k : WP l G tc D L EX own cc nL rm wc (pc + 1) lv (v :: v :: st) M Q) : WP l G tc D L EX own cc nL rm wc pc lv (v :: st) M Q :=
  fun p e s m args below meth c cells slots Z hC hQ H locs ls hH => lv_dup hC.1 hC.2.1 hd (by rw [cv_cat]; exact hv) (k p e s m args below meth c cells slots Z hC hQ H locs ls hH)
theorem WP.dup2 {v w : Value} (hd : decode cc pc = .ok (.dup2, 1)) (hv : v.category = 1) (hw : w.category = 1) (k : WP l G tc D L EX own cc nL rm wc (pc + 1) lv (v :: w :: v :: w :: st) M Q) : WP l G tc D L EX own cc nL rm wc pc lv (v :: w :: st) M Q :=
  fun p e s m args below meth c cells slots Z hC hQ H locs ls hH => lv_dup2_11 hC.1 hC.2.1 hd (by rw [cv_cat]; exact hv) (by rw [cv_cat]; exact hw) (k p e s m args below meth c cells slots Z hC hQ H locs ls hH)
theorem WP.pop {v : Value} (hd : decode cc pc = .ok (.pop, 1)) (hv : v.category = 1) (k : WP l G tc D L EX own cc nL rm wc (pc + 1) lv st M Q) : WP l G tc D L EX own cc nL rm wc pc lv (v :: st) M Q :=
  fun p e s m args below meth c cells slots Z hC hQ H locs ls hH => lv_pop hC.1 hC.2.1 hd (by rw [cv_cat]; exact hv) (k p e s m args below meth c cells slots Z hC hQ H locs ls hH)
theorem WP.lcmp {x y : Int64} (hd : decode cc pc = .ok (.lcmp, 1)) (k : WP l G tc D L EX own cc nL rm wc (pc + 1) lv (.int (lg_cmp x y) :: st) M Q) : WP l G tc D L EX own cc nL rm wc pc lv (.long y :: .long x :: st) M Q :=
  fun p e s m args below meth c cells slots Z hC hQ H locs ls hH => W.lcmp hC.1 hC.2.1 hd (k p e s m args below meth c cells slots Z hC hQ H locs ls hH)
theorem WP.iadd {x y : Int32} (hd : decode cc pc = .ok (.iadd, 1)) (k : WP l G tc D L EX own cc nL rm wc (pc + 1) lv (.int (x + y) :: st) M Q) : WP l G tc D L EX own cc nL rm wc pc lv (.int y :: .int x :: st) M Q :=
  fun p e s m args below meth c cells slots Z hC hQ H locs ls hH => lv_iadd hC.1 hC.2.1 hd (k p e s m args below meth c cells slots Z hC hQ H locs ls hH)
theorem WP.isub {x y : Int32} (hd : decode cc pc = .ok (.isub, 1)) (k : WP l G tc D L EX own cc nL rm wc (pc + 1) lv (.int (x - y) :: st) M Q) : WP l G tc D L EX own cc nL rm wc pc lv (.int y :: .int x :: st) M Q :=
  fun p e s m args below meth c cells slots Z hC hQ H locs ls hH => lv_isub hC.1 hC.2.1 hd (k p e s m args below meth c cells slots Z hC hQ H locs ls hH)
theorem WP.imul {x y : Int32} (hd : decode cc pc = .ok (.imul, 1)) (k : WP l G tc D L EX own cc nL rm wc (pc + 1) lv (.int (x * y) :: st) M Q) : WP l G tc D L EX own cc nL rm wc pc lv (.int y :: .int x :: st) M Q :=
  fun p e s m args below meth c cells slots Z hC hQ H locs ls hH => lv_imul hC.1 hC.2.1 hd (k p e s m args below meth c cells slots Z hC hQ H locs ls hH)
theorem WP.iand {x y : Int32} (hd : decode cc pc = .ok (.iand, 1)) (k : WP l G tc D L EX own cc nL rm wc (pc + 1) lv (.int (x &&& y) :: st) M Q) : WP l G tc D L EX own cc nL rm wc pc lv (.int y :: .int x :: st) M Q :=
  fun p e s m args below meth c cells slots Z hC hQ H locs ls hH => lv_iand hC.1 hC.2.1 hd (k p e s m args below meth c cells slots Z hC hQ H locs ls hH)
theorem WP.ior {x y : Int32} (hd : decode cc pc = .ok (.ior, 1)) (k : WP l G tc D L EX own cc nL rm wc (pc + 1) lv (.int (x ||| y) :: st) M Q) : WP l G tc D L EX own cc nL rm wc pc lv (.int y :: .int x :: st) M Q :=
  fun p e s m args below meth c cells slots Z hC hQ H locs ls hH => lv_ior hC.1 hC.2.1 hd (k p e s m args below meth c cells slots Z hC hQ H locs ls hH)
theorem WP.ixor {x y : Int32} (hd : decode cc pc = .ok (.ixor, 1)) (k : WP l G tc D L EX own cc nL rm wc (pc + 1) lv (.int (x ^^^ y) :: st) M Q) : WP l G tc D L EX own cc nL rm wc pc lv (.int y :: .int x :: st) M Q :=
  fun p e s m args below meth c cells slots Z hC hQ H locs ls hH => lv_ixor hC.1 hC.2.1 hd (k p e s m args below meth c cells slots Z hC hQ H locs ls hH)
theorem WP.ishl {x y : Int32} (hd : decode cc pc = .ok (.ishl, 1)) (k : WP l G tc D L EX own cc nL rm wc (pc + 1) lv (.int (x <<< (y &&& 31)) :: st) M Q) : WP l G tc D L EX own cc nL rm wc pc lv (.int y :: .int x :: st) M Q :=
  fun p e s m args below meth c cells slots Z hC hQ H locs ls hH => lv_ishl hC.1 hC.2.1 hd (k p e s m args below meth c cells slots Z hC hQ H locs ls hH)
theorem WP.ishr {x y : Int32} (hd : decode cc pc = .ok (.ishr, 1)) (k : WP l G tc D L EX own cc nL rm wc (pc + 1) lv (.int (x >>> (y &&& 31)) :: st) M Q) : WP l G tc D L EX own cc nL rm wc pc lv (.int y :: .int x :: st) M Q :=
  fun p e s m args below meth c cells slots Z hC hQ H locs ls hH => lv_ishr hC.1 hC.2.1 hd (k p e s m args below meth c cells slots Z hC hQ H locs ls hH)
theorem WP.irem {x y : Int32} (hd : decode cc pc = .ok (.irem, 1)) (hne : ¬ y = 0) (k : WP l G tc D L EX own cc nL rm wc (pc + 1) lv (.int (x - x / y * y) :: st) M Q) : WP l G tc D L EX own cc nL rm wc pc lv (.int y :: .int x :: st) M Q :=
  fun p e s m args below meth c cells slots Z hC hQ H locs ls hH => lv_irem hC.1 hC.2.1 hd hne (k p e s m args below meth c cells slots Z hC hQ H locs ls hH)
theorem WP.idiv {x y : Int32} (hd : decode cc pc = .ok (.idiv, 1)) (hne : ¬ y = 0) (k : WP l G tc D L EX own cc nL rm wc (pc + 1) lv (.int (x / y) :: st) M Q) : WP l G tc D L EX own cc nL rm wc pc lv (.int y :: .int x :: st) M Q :=
  fun p e s m args below meth c cells slots Z hC hQ H locs ls hH => lv_idiv hC.1 hC.2.1 hd hne (k p e s m args below meth c cells slots Z hC hQ H locs ls hH)
theorem WP.ladd {x y : Int64} (hd : decode cc pc = .ok (.ladd, 1)) (k : WP l G tc D L EX own cc nL rm wc (pc + 1) lv (.long (x + y) :: st) M Q) : WP l G tc D L EX own cc nL rm wc pc lv (.long y :: .long x :: st) M Q :=
  fun p e s m args below meth c cells slots Z hC hQ H locs ls hH => lv_ladd hC.1 hC.2.1 hd (k p e s m args below meth c cells slots Z hC hQ H locs ls hH)
theorem WP.lsub {x y : Int64} (hd : decode cc pc = .ok (.lsub, 1)) (k : WP l G tc D L EX own cc nL rm wc (pc + 1) lv (.long (x - y) :: st) M Q) : WP l G tc D L EX own cc nL rm wc pc lv (.long y :: .long x :: st) M Q :=
  fun p e s m args below meth c cells slots Z hC hQ H locs ls hH => lv_lsub hC.1 hC.2.1 hd (k p e s m args below meth c cells slots Z hC hQ H locs ls hH)
theorem WP.lmul {x y : Int64} (hd : decode cc pc = .ok (.lmul, 1)) (k : WP l G tc D L EX own cc nL rm wc (pc + 1) lv (.long (x * y) :: st) M Q) : WP l G tc D L EX own cc nL rm wc pc lv (.long y :: .long x :: st) M Q :=
  fun p e s m args below meth c cells slots Z hC hQ H locs ls hH => lv_lmul hC.1 hC.2.1 hd (k p e s m args below meth c cells slots Z hC hQ H locs ls hH)
theorem WP.land {x y : Int64} (hd : decode cc pc = .ok (.land, 1)) (k : WP l G tc D L EX own cc nL rm wc (pc + 1) lv (.long (x &&& y) :: st) M Q) : WP l G tc D L EX own cc nL rm wc pc lv (.long y :: .long x :: st) M Q :=
  fun p e s m args below meth c cells slots Z hC hQ H locs ls hH => lv_land hC.1 hC.2.1 hd (k p e s m args below meth c cells slots Z hC hQ H locs ls hH)
theorem WP.lor {x y : Int64} (hd : decode cc pc = .ok (.lor, 1)) (k : WP l G tc D L EX own cc nL rm wc (pc + 1) lv (.long (x ||| y) :: st) M Q) : WP l G tc D L EX own cc nL rm wc pc lv (.long y :: .long x :: st) M Q :=
  fun p e s m args below meth c cells slots Z hC hQ H locs ls hH => lv_lor hC.1 hC.2.1 hd (k p e s m args below meth c cells slots Z hC hQ H locs ls hH)
theorem WP.ineg {x : Int32} (hd : decode cc pc = .ok (.ineg, 1)) (k : WP l G tc D L EX own cc nL rm wc (pc + 1) lv (.int (-x) :: st) M Q) : WP l G tc D L EX own cc nL rm wc pc lv (.int x :: st) M Q :=
  fun p e s m args below meth c cells slots Z hC hQ H locs ls hH => lv_ineg hC.1 hC.2.1 hd (k p e s m args below meth c cells slots Z hC hQ H locs ls hH)
theorem WP.i2l {x : Int32} (hd : decode cc pc = .ok (.i2l, 1)) (k : WP l G tc D L EX own cc nL rm wc (pc + 1) lv (.long x.toInt64 :: st) M Q) : WP l G tc D L EX own cc nL rm wc pc lv (.int x :: st) M Q :=
  fun p e s m args below meth c cells slots Z hC hQ H locs ls hH => lv_i2l hC.1 hC.2.1 hd rfl (k p e s m args below meth c cells slots Z hC hQ H locs ls hH)
theorem WP.l2i {x : Int64} (hd : decode cc pc = .ok (.l2i, 1)) (k : WP l G tc D L EX own cc nL rm wc (pc + 1) lv (.int x.toInt32 :: st) M Q) : WP l G tc D L EX own cc nL rm wc pc lv (.long x :: st) M Q :=
  fun p e s m args below meth c cells slots Z hC hQ H locs ls hH => lv_l2i hC.1 hC.2.1 hd rfl (k p e s m args below meth c cells slots Z hC hQ H locs ls hH)
theorem WP.iushr {x y : Int32} (hd : decode cc pc = .ok (.iushr, 1)) (k : WP l G tc D L EX own cc nL rm wc (pc + 1) lv (.int (x.toUInt32 >>> (y.toUInt32 &&& Int32.toUInt32 31)).toInt32 :: st) M Q) : WP l G tc D L EX own cc nL rm wc pc lv (.int y :: .int x :: st) M Q :=
  fun p e s m args below meth c cells slots Z hC hQ H locs ls hH => lv_iushr hC.1 hC.2.1 hd rfl (k p e s m args below meth c cells slots Z hC hQ H locs ls hH)
theorem WP.lshl {x : Int64} {y : Int32} (hd : decode cc pc = .ok (.lshl, 1)) (k : WP l G tc D L EX own cc nL rm wc (pc + 1) lv (.long (x <<< (y.toInt64 &&& 63)) :: st) M Q) : WP l G tc D L EX own cc nL rm wc pc lv (.int y :: .long x :: st) M Q :=
  fun p e s m args below meth c cells slots Z hC hQ H locs ls hH => lv_lshl hC.1 hC.2.1 hd rfl (k p e s m args below meth c cells slots Z hC hQ H locs ls hH)
theorem WP.lshr {x : Int64} {y : Int32} (hd : decode cc pc = .ok (.lshr, 1)) (k : WP l G tc D L EX own cc nL rm wc (pc + 1) lv (.long (x >>> (y.toInt64 &&& 63)) :: st) M Q) : WP l G tc D L EX own cc nL rm wc pc lv (.int y :: .long x :: st) M Q :=
  fun p e s m args below meth c cells slots Z hC hQ H locs ls hH => lv_lshr hC.1 hC.2.1 hd rfl (k p e s m args below meth c cells slots Z hC hQ H locs ls hH)
theorem WP.if_eq {x : Int32} {off : Int} {tgt : Nat} (hd : decode cc pc = .ok (.ifCond .eq off, 3)) (ht : (pc : Int) + off = (tgt : Int)) (kt : x = 0 → WP l G tc D L EX own cc nL rm wc tgt lv st M Q) (kf : ¬ x = 0 → WP l G tc D L EX own cc nL rm wc (pc + 3) lv st M Q) : WP l G tc D L EX own cc nL rm wc pc lv (.int x :: st) M Q :=
  fun p e s m args below meth c cells slots Z hC hQ H locs ls hH => lv_if_eq hC.1 hC.2.1 hd ht (fun h => kt h p e s m args below meth c cells slots Z hC hQ H locs ls hH) (fun h => kf h p e s m args below meth c cells slots Z hC hQ H locs ls hH)
theorem WP.icmp_eq {x y : Int32} {off : Int} {tgt : Nat} (hd : decode cc pc = .ok (.if_icmp .eq off, 3)) (ht : (pc : Int) + off = (tgt : Int)) (kt : x = y → WP l G tc D L EX own cc nL rm wc tgt lv st M Q) (kf : ¬ x = y → WP l G tc D L EX own cc nL rm wc (pc + 3) lv st M Q) : WP l G tc D L EX own cc nL rm wc pc lv (.int y :: .int x :: st) M Q :=
  fun p e s m args below meth c cells slots Z hC hQ H locs ls hH => lv_icmp_eq hC.1 hC.2.1 hd ht (fun h => kt h p e s m args below meth c cells slots Z hC hQ H locs ls hH) (fun h => kf h p e s m args below meth c cells slots Z hC hQ H locs ls hH)
theorem WP.if_ne {x : Int32} {off : Int} {tgt : Nat} (hd : decode cc pc = .ok (.ifCond .ne off, 3)) (ht : (pc : Int) + off = (tgt : Int)) (kt : ¬ x = 0 → WP l G tc D L EX own cc nL rm wc tgt lv st M Q) (kf : x = 0 → WP l G tc D L EX own cc nL rm wc (pc + 3) lv st M Q) : WP l G tc D L EX own cc nL rm wc pc lv (.int x :: st) M Q :=
  fun p e s m args below meth c cells slots Z hC hQ H locs ls hH => lv_if_ne hC.1 hC.2.1 hd ht (fun h => kt h p e s m args below meth c cells slots Z hC hQ H locs ls hH) (fun h => kf h p e s m args below meth c cells slots Z hC hQ H locs ls hH)
theorem WP.icmp_ne {x y : Int32} {off : Int} {tgt : Nat} (hd : decode cc pc = .ok (.if_icmp .ne off, 3)) (ht : (pc : Int) + off = (tgt : Int)) (kt : ¬ x = y → WP l G tc D L EX own cc nL rm wc tgt lv st M Q) (kf : x = y → WP l G tc D L EX own cc nL rm wc (pc + 3) lv st M Q) : WP l G tc D L EX own cc nL rm wc pc lv (.int y :: .int x :: st) M Q :=
  fun p e s m args below meth c cells slots Z hC hQ H locs ls hH => lv_icmp_ne hC.1 hC.2.1 hd ht (fun h => kt h p e s m args below meth c cells slots Z hC hQ H locs ls hH) (fun h => kf h p e s m args below meth c cells slots Z hC hQ H locs ls hH)
theorem WP.if_lt {x : Int32} {off : Int} {tgt : Nat} (hd : decode cc pc = .ok (.ifCond .lt off, 3)) (ht : (pc : Int) + off = (tgt : Int)) (kt : x < 0 → WP l G tc D L EX own cc nL rm wc tgt lv st M Q) (kf : ¬ x < 0 → WP l G tc D L EX own cc nL rm wc (pc + 3) lv st M Q) : WP l G tc D L EX own cc nL rm wc pc lv (.int x :: st) M Q :=
  fun p e s m args below meth c cells slots Z hC hQ H locs ls hH => lv_if_lt hC.1 hC.2.1 hd ht (fun h => kt h p e s m args below meth c cells slots Z hC hQ H locs ls hH) (fun h => kf h p e s m args below meth c cells slots Z hC hQ H locs ls hH)
theorem WP.icmp_lt {x y : Int32} {off : Int} {tgt : Nat} (hd : decode cc pc = .ok (.if_icmp .lt off, 3)) (ht : (pc : Int) + off = (tgt : Int)) (kt : x < y → WP l G tc D L EX own cc nL rm wc tgt lv st M Q) (kf : ¬ x < y → WP l G tc D L EX own cc nL rm wc (pc + 3) lv st M Q) : WP l G tc D L EX own cc nL rm wc pc lv (.int y :: .int x :: st) M Q :=
  fun p e s m args below meth c cells slots Z hC hQ H locs ls hH => lv_icmp_lt hC.1 hC.2.1 hd ht (fun h => kt h p e s m args below meth c cells slots Z hC hQ H locs ls hH) (fun h => kf h p e s m args below meth c cells slots Z hC hQ H locs ls hH)
theorem WP.if_ge {x : Int32} {off : Int} {tgt : Nat} (hd : decode cc pc = .ok (.ifCond .ge off, 3)) (ht : (pc : Int) + off = (tgt : Int)) (kt : 0 ≤ x → WP l G tc D L EX own cc nL rm wc tgt lv st M Q) (kf : ¬ 0 ≤ x → WP l G tc D L EX own cc nL rm wc (pc + 3) lv st M Q) : WP l G tc D L EX own cc nL rm wc pc lv (.int x :: st) M Q :=
  fun p e s m args below meth c cells slots Z hC hQ H locs ls hH => lv_if_ge hC.1 hC.2.1 hd ht (fun h => kt h p e s m args below meth c cells slots Z hC hQ H locs ls hH) (fun h => kf h p e s m args below meth c cells slots Z hC hQ H locs ls hH)
theorem WP.icmp_ge {x y : Int32} {off : Int} {tgt : Nat} (hd : decode cc pc = .ok (.if_icmp .ge off, 3)) (ht : (pc : Int) + off = (tgt : Int)) (kt : y ≤ x → WP l G tc D L EX own cc nL rm wc tgt lv st M Q) (kf : ¬ y ≤ x → WP l G tc D L EX own cc nL rm wc (pc + 3) lv st M Q) : WP l G tc D L EX own cc nL rm wc pc lv (.int y :: .int x :: st) M Q :=
  fun p e s m args below meth c cells slots Z hC hQ H locs ls hH => lv_icmp_ge hC.1 hC.2.1 hd ht (fun h => kt h p e s m args below meth c cells slots Z hC hQ H locs ls hH) (fun h => kf h p e s m args below meth c cells slots Z hC hQ H locs ls hH)
theorem WP.if_gt {x : Int32} {off : Int} {tgt : Nat} (hd : decode cc pc = .ok (.ifCond .gt off, 3)) (ht : (pc : Int) + off = (tgt : Int)) (kt : 0 < x → WP l G tc D L EX own cc nL rm wc tgt lv st M Q) (kf : ¬ 0 < x → WP l G tc D L EX own cc nL rm wc (pc + 3) lv st M Q) : WP l G tc D L EX own cc nL rm wc pc lv (.int x :: st) M Q :=
  fun p e s m args below meth c cells slots Z hC hQ H locs ls hH => lv_if_gt hC.1 hC.2.1 hd ht (fun h => kt h p e s m args below meth c cells slots Z hC hQ H locs ls hH) (fun h => kf h p e s m args below meth c cells slots Z hC hQ H locs ls hH)
theorem WP.icmp_gt {x y : Int32} {off : Int} {tgt : Nat} (hd : decode cc pc = .ok (.if_icmp .gt off, 3)) (ht : (pc : Int) + off = (tgt : Int)) (kt : y < x → WP l G tc D L EX own cc nL rm wc tgt lv st M Q) (kf : ¬ y < x → WP l G tc D L EX own cc nL rm wc (pc + 3) lv st M Q) : WP l G tc D L EX own cc nL rm wc pc lv (.int y :: .int x :: st) M Q :=
  fun p e s m args below meth c cells slots Z hC hQ H locs ls hH => lv_icmp_gt hC.1 hC.2.1 hd ht (fun h => kt h p e s m args below meth c cells slots Z hC hQ H locs ls hH) (fun h => kf h p e s m args below meth c cells slots Z hC hQ H locs ls hH)
theorem WP.if_le {x : Int32} {off : Int} {tgt : Nat} (hd : decode cc pc = .ok (.ifCond .le off, 3)) (ht : (pc : Int) + off = (tgt : Int)) (kt : x ≤ 0 → WP l G tc D L EX own cc nL rm wc tgt lv st M Q) (kf : ¬ x ≤ 0 → WP l G tc D L EX own cc nL rm wc (pc + 3) lv st M Q) : WP l G tc D L EX own cc nL rm wc pc lv (.int x :: st) M Q :=
  fun p e s m args below meth c cells slots Z hC hQ H locs ls hH => lv_if_le hC.1 hC.2.1 hd ht (fun h => kt h p e s m args below meth c cells slots Z hC hQ H locs ls hH) (fun h => kf h p e s m args below meth c cells slots Z hC hQ H locs ls hH)
theorem WP.icmp_le {x y : Int32} {off : Int} {tgt : Nat} (hd : decode cc pc = .ok (.if_icmp .le off, 3)) (ht : (pc : Int) + off = (tgt : Int)) (kt : x ≤ y → WP l G tc D L EX own cc nL rm wc tgt lv st M Q) (kf : ¬ x ≤ y → WP l G tc D L EX own cc nL rm wc (pc + 3) lv st M Q) : WP l G tc D L EX own cc nL rm wc pc lv (.int y :: .int x :: st) M Q :=
  fun p e s m args below meth c cells slots Z hC hQ H locs ls hH => lv_icmp_le hC.1 hC.2.1 hd ht (fun h => kt h p e s m args below meth c cells slots Z hC hQ H locs ls hH) (fun h => kf h p e s m args below meth c cells slots Z hC hQ H locs ls hH)
theorem WP.tblOut {dflt lo hi : Int} {offs : Array Int} {len : Nat} {x : Int32} {tgt : Nat} (hd : decode cc pc = .ok (.tableswitch dflt lo hi offs, len)) (h : x.toInt < lo ∨ hi < x.toInt) (ht : (pc : Int) + dflt = (tgt : Int)) (k : WP l G tc D L EX own cc nL rm wc tgt lv st M Q) : WP l G tc D L EX own cc nL rm wc pc lv (.int x :: st) M Q :=
  fun p e s m args below meth c cells slots Z hC hQ H locs ls hH => lv_tableOut hC.1 hC.2.1 hd h ht (k p e s m args below meth c cells slots Z hC hQ H locs ls hH)
theorem WP.tblIn {dflt lo hi : Int} {offs : Array Int} {len : Nat} {x : Int32} {off : Int} {tgt : Nat} (hd : decode cc pc = .ok (.tableswitch dflt lo hi offs, len)) (h1 : ¬ x.toInt < lo) (h2 : ¬ hi < x.toInt) (ho : offs[(x.toInt - lo).toNat]? = some off) (ht : (pc : Int) + off = (tgt : Int)) (k : WP l G tc D L EX own cc nL rm wc tgt lv st M Q) : WP l G tc D L EX own cc nL rm wc pc lv (.int x :: st) M Q :=
  fun p e s m args below meth c cells slots Z hC hQ H locs ls hH => lv_tableIn hC.1 hC.2.1 hd h1 h2 ho ht (k p e s m args below meth c cells slots Z hC hQ H locs ls hH)
/-- a field that is a reference -/
theorem WP.getR {a ci index N j r : Nat} {C : String} {T : u_T} {fs : List (Option Nat)} (hd : decode cc pc = .ok (.getfield index, 3)) (hL : L[a]? = some (.inl (ci, fs))) (hc : vwCl[ci]? = some (C, T, N)) (hin : ∀ w ∈ u_ws C T N, w ∈ tbG) (hj : j < N) (hw : Cond.fieldLink own index (T j).1 (T j).2.1 (T j).2.2.1 ∈ tbG) (hf : fs[j]? = some (some r)) (k : WP l G tc D L EX own cc nL rm wc (pc + 3) lv (.ref r :: st) M Q) : WP l G tc D L EX own cc nL rm wc pc lv (.ref a :: st) M Q :=
  fun p e s m args below meth c cells slots Z hC hQ H locs ls hH => va_get hC.1 hC.2.1 hC.2.2.2.2.1 (fun w h => List.mem_cons_of_mem _ (hin w h)) hC.2.2.2.1 hC.2.2.2.2.2.1 hH.1 a (mkW_at hL) hc j hj (hC.2.2.2.2.1 _ (List.mem_cons_of_mem _ hw)) (fun _ h => h) (by rw [flV_get, hf]; rfl) hd (k p e s m args below meth c cells slots Z hC hQ H locs ls hH)
/-- a field that is an int -/
theorem WP.getI {a ci index N j : Nat} {C : String} {T : u_T} {fs : List (Option Nat)} (hd : decode cc pc = .ok (.getfield index, 3)) (hL : L[a]? = some (.inl (ci, fs))) (hc : vwCl[ci]? = some (C, T, N)) (hin : ∀ w ∈ u_ws C T N, w ∈ tbG) (hj : j < N) (hw : Cond.fieldLink own index (T j).1 (T j).2.1 (T j).2.2.1 ∈ tbG) (hf : fs[j]? = some none) (k : WP l G tc D L EX own cc nL rm wc (pc + 3) lv (.int (M.1 a j) :: st) M Q) : WP l G tc D L EX own cc nL rm wc pc lv (.ref a :: st) M Q :=
  fun p e s m args below meth c cells slots Z hC hQ H locs ls hH => va_get hC.1 hC.2.1 hC.2.2.2.2.1 (fun w h => List.mem_cons_of_mem _ (hin w h)) hC.2.2.2.1 hC.2.2.2.2.2.1 hH.1 a (mkW_at hL) hc j hj (hC.2.2.2.2.1 _ (List.mem_cons_of_mem _ hw)) (fun _ h => h) (v := .int (M.1 a j)) (by rw [flV_get, hf]; simp) hd (k p e s m args below meth c cells slots Z hC hQ H locs ls hH)
/-- an int is laid into a field -/
theorem WP.putI {a ci index N j : Nat} {C : String} {T : u_T} {fs : List (Option Nat)} {ty0 : Nat → FieldType} {ty : FieldType} {v : Int32} (hd : decode cc pc = .ok (.putfield index, 3)) (hL : L[a]? = some (.inl (ci, fs))) (hc : vwCl[ci]? = some (C, T, N)) (hin : ∀ w ∈ u_ws C T N, w ∈ tbG) (hty : ∀ k, k < N → parseFieldDescriptor (T k).2.2.1 = some (ty0 k)) (hnm : ∀ a, a < N → ∀ b, b < N → a ≠ b → (T a).2.1 ≠ (T b).2.1) (hj : j < N) (hw : Cond.fieldLink own index (T j).1 (T j).2.1 (T j).2.2.1 ∈ tbG) (hfin : (T j).2.2.2 = false) (hdy : parseFieldDescriptor (T j).2.2.1 = some ty) (hn : narrow ty (.int v) = .int v) (hfit : fits ty (.int v) = true) (hf : fs[j]? = some none) (k : WP l G tc D L EX own cc nL rm wc (pc + 3) lv st (up1 M a j v) Q) : WP l G tc D L EX own cc nL rm wc pc lv (.int v :: .ref a :: st) M Q := by
  intro p e s m args below meth c cells slots Z hC hQ H locs ls hH
  refine va_put (v := .int v) hC.1 hC.2.1 hC.2.2.2.2.1 (fun w h => List.mem_cons_of_mem _ (hin w h)) ty0 hty hnm hC.2.2.2.1 hC.2.2.2.2.2.1 hH.1 (mkW_D hC.2.2.2.2.2.2.2.2.1) hH.2.1 a (mkW_at hL) hc j hj (hC.2.2.2.2.1 _ (List.mem_cons_of_mem _ hw)) (fun _ h => h) hfin hdy hn hfit (by rw [flV_len]; exact (List.getElem?_eq_some_iff.mp hf).1) hd (fun H1 locs1 hP1 hD1 hS1 => ?_)
  rw [mkW_set (M' := up1 M a j v) hL (by simp only [ceV]; rw [flV_set hf]) up1_o] at hP1
  exact k p e s m args below meth c cells slots Z hC hQ H1 locs1 ls ⟨hP1, hS1, hH.2.2⟩
/-- arrays of ints, of booleans, of longs, of references -/
theorem WP.iald {a n : Nat} {i : Int32} (hd : decode cc pc = .ok (.iaload, 1)) (hL : L[a]? = some (.inr (.inl (0, n)))) (hi : vp_in i n) (k : WP l G tc D L EX own cc nL rm wc (pc + 1) lv (.int (M.1 a i.toNatClampNeg) :: st) M Q) : WP l G tc D L EX own cc nL rm wc pc lv (.int i :: .ref a :: st) M Q :=
  fun p e s m args below meth c cells slots Z hC hQ H locs ls hH => va_iald hC.1 hC.2.1 hC.2.2.2.2.2.1 hH.1 a 0 (mkW_at hL) rfl hi hd (k p e s m args below meth c cells slots Z hC hQ H locs ls hH)
theorem WP.zald {a n : Nat} {i : Int32} (hd : decode cc pc = .ok (.baload, 1)) (hL : L[a]? = some (.inr (.inl (1, n)))) (hi : vp_in i n) (k : WP l G tc D L EX own cc nL rm wc (pc + 1) lv (.int (M.1 a i.toNatClampNeg) :: st) M Q) : WP l G tc D L EX own cc nL rm wc pc lv (.int i :: .ref a :: st) M Q :=
  fun p e s m args below meth c cells slots Z hC hQ H locs ls hH => va_zald hC.1 hC.2.1 hC.2.2.2.2.2.1 hH.1 a 1 (mkW_at hL) rfl hi hd (k p e s m args below meth c cells slots Z hC hQ H locs ls hH)
theorem WP.lald {a n : Nat} {i : Int32} (hd : decode cc pc = .ok (.laload, 1)) (hL : L[a]? = some (.inr (.inr (.inl n)))) (hi : vp_in i n) (k : WP l G tc D L EX own cc nL rm wc (pc + 1) lv (.long (M.2 a i.toNatClampNeg) :: st) M Q) : WP l G tc D L EX own cc nL rm wc pc lv (.int i :: .ref a :: st) M Q :=
  fun p e s m args below meth c cells slots Z hC hQ H locs ls hH => va_lald hC.1 hC.2.1 hC.2.2.2.2.2.1 hH.1 a 2 (mkW_at hL) rfl hi hd (k p e s m args below meth c cells slots Z hC hQ H locs ls hH)
theorem WP.aald {a r : Nat} {rs : List Nat} {i : Int32} (hd : decode cc pc = .ok (.aaload, 1)) (hL : L[a]? = some (.inr (.inr (.inr rs)))) (hi : vp_in i rs.length) (hr : rs[i.toNatClampNeg]? = some r) (k : WP l G tc D L EX own cc nL rm wc (pc + 1) lv (.ref r :: st) M Q) : WP l G tc D L EX own cc nL rm wc pc lv (.int i :: .ref a :: st) M Q := by
  intro p e s m args below meth c cells slots Z hC hQ H locs ls hH
  have hlt : i.toNatClampNeg < rs.length := Nat.not_le.mp fun q => hi (Or.inr q)
  have ha := mkW_at (tc := tc) (D := D) (M := M) hL
  refine W.aald (v := .ref (D r)) (ty := .array .int) hC.1 hC.2.1 (hH.1 a _ ha) ((hC.2.2.2.2.2.1.2 3 (tc 3, .array .int) rfl).1 rs.length (fun j => va_rf ((rs[j]?).map D))) rfl (fun q => by cases q) (by show ¬ (i < 0 ∨ (arrV _ _ _).slots.size ≤ _); rw [arrV_size]; exact hi) (by show (arrV _ _ _).slots[_]? = _; rw [arrV_read _ _ hlt]; show some (va_rf ((rs[i.toNatClampNeg]?).map D)) = _; rw [hr]; rfl) rfl rfl hd (k p e s m args below meth c cells slots Z hC hQ H locs ls hH)
theorem WP.iast {a n : Nat} {i v : Int32} (hd : decode cc pc = .ok (.iastore, 1)) (hL : L[a]? = some (.inr (.inl (0, n)))) (hi : vp_in i n) (k : WP l G tc D L EX own cc nL rm wc (pc + 1) lv st (up1 M a i.toNatClampNeg v) Q) : WP l G tc D L EX own cc nL rm wc pc lv (.int v :: .int i :: .ref a :: st) M Q := by
  intro p e s m args below meth c cells slots Z hC hQ H locs ls hH
  refine va_iast hC.1 hC.2.1 hC.2.2.2.2.2.1 hH.1 (mkW_D hC.2.2.2.2.2.2.2.2.1) hH.2.1 a 0 (mkW_at hL) rfl hi hd (fun H1 locs1 hP1 hD1 hS1 => ?_)
  rw [mkW_set (M' := up1 M a i.toNatClampNeg v) hL (by simp [ceV, up1]) up1_o] at hP1
  exact k p e s m args below meth c cells slots Z hC hQ H1 locs1 ls ⟨hP1, hS1, hH.2.2⟩
theorem WP.zast {a n : Nat} {i v : Int32} (hd : decode cc pc = .ok (.bastore, 1)) (hL : L[a]? = some (.inr (.inl (1, n)))) (hi : vp_in i n) (hv : v = 0 ∨ v = 1) (k : WP l G tc D L EX own cc nL rm wc (pc + 1) lv st (up1 M a i.toNatClampNeg v) Q) : WP l G tc D L EX own cc nL rm wc pc lv (.int v :: .int i :: .ref a :: st) M Q := by
  intro p e s m args below meth c cells slots Z hC hQ H locs ls hH
  refine va_zast hC.1 hC.2.1 hC.2.2.2.2.2.1 hH.1 (mkW_D hC.2.2.2.2.2.2.2.2.1) hH.2.1 a 1 (mkW_at hL) rfl hi hd (fun H1 locs1 hP1 hD1 hS1 => ?_)
  have hb : vp_nar .boolean v = v := by rcases hv with rfl | rfl <;> decide
  rw [hb] at hP1
  rw [mkW_set (M' := up1 M a i.toNatClampNeg v) hL (by simp [ceV, up1]) up1_o] at hP1
  exact k p e s m args below meth c cells slots Z hC hQ H1 locs1 ls ⟨hP1, hS1, hH.2.2⟩
theorem WP.last {a n : Nat} {i : Int32} {v : Int64} (hd : decode cc pc = .ok (.lastore, 1)) (hL : L[a]? = some (.inr (.inr (.inl n)))) (hi : vp_in i n) (k : WP l G tc D L EX own cc nL rm wc (pc + 1) lv st (up2 M a i.toNatClampNeg v) Q) : WP l G tc D L EX own cc nL rm wc pc lv (.long v :: .int i :: .ref a :: st) M Q := by
  intro p e s m args below meth c cells slots Z hC hQ H locs ls hH
  refine va_last hC.1 hC.2.1 hC.2.2.2.2.2.1 hH.1 (mkW_D hC.2.2.2.2.2.2.2.2.1) hH.2.1 a 2 (mkW_at hL) rfl hi hd (fun H1 locs1 hP1 hD1 hS1 => ?_)
  rw [mkW_set (M' := up2 M a i.toNatClampNeg v) hL (by simp [ceV, up2]) up2_o] at hP1
  exact k p e s m args below meth c cells slots Z hC hQ H1 locs1 ls ⟨hP1, hS1, hH.2.2⟩
theorem WP.alen {a n : Nat} {v : Int32} (hd : decode cc pc = .ok (.arraylength, 1)) (hL : L[a]? = some (.inr (.inl (0, n)))) (hv : Int32.ofNat n = v) (k : WP l G tc D L EX own cc nL rm wc (pc + 1) lv (.int v :: st) M Q) : WP l G tc D L EX own cc nL rm wc pc lv (.ref a :: st) M Q :=
  fun p e s m args below meth c cells slots Z hC hQ H locs ls hH => va_alen hC.1 hC.2.1 hC.2.2.2.2.2.1 hH.1 a 0 (mkW_at hL) rfl hv hd (k p e s m args below meth c cells slots Z hC hQ H locs ls hH)
end WPR
end
section
/-! ===== methods by WP, and calls of them ===== -/
def RetQ (cc : ByteArray) (ret : Option FieldType) (Q : Option Value → Mm → Prop) : Nat → List (Option Value) → List Value → Mm → Prop := fun pc _ st M =>
  (ret = none ∧ decode cc pc = .ok (.return_, 1) ∧ st = [] ∧ Q none M) ∨ (∃ v : Int32, ret = some .int ∧ decode cc pc = .ok (.ireturn, 1) ∧ st = [.int v] ∧ Q (some (.int v)) M) ∨
  (∃ v : Int32, ret = some .boolean ∧ decode cc pc = .ok (.ireturn, 1) ∧ (v = 0 ∨ v = 1) ∧ st = [.int v] ∧ Q (some (.int v)) M) ∨ (∃ v : Int64, ret = some .long ∧ decode cc pc = .ok (.lreturn, 1) ∧ st = [.long v] ∧ Q (some (.long v)) M)
def QcV (G : va_G) (tc : Nat → ClassId) (D : Nat → Nat) (L : List LC) (Q : Option Value → Mm → Prop) : Array Value → State → Outcome → State → Prop := fun _ st o t => (∃ (r : Option Value) (M' : Mm), o = .returned (r.map (cv D)) ∧ Q r M' ∧ va_P G vwCl (mkW tc D M' 0 L) t.heap) ∧ va_F (inA D L) st t
def PcV (G : va_G) (tc : Nat → ClassId) (D : Nat → Nat) (L : List LC) (vs : List Value) (M : Mm) : Array Value → State → Prop := va_Pc (vs.map (cv D)) (fun U => va_P G vwCl (mkW tc D M 0 L) U.heap ∧ va_K G vwCl (tysV tc) U ∧ nwV U ∧ JJ D L)
theorem lg_cat (D : Nat → Nat) : ∀ vs : List Value, (lg_sl (vs.map (cv D))).length = (vs.map fun v => v.category).sum
  | [] => rfl
  | v :: t => by
    have h := lg_cat D t
    simp only [lg_sl, List.map_cons, List.flatMap_cons, List.length_append, List.sum_cons, cv_cat] at h ⊢
    rw [h]
    rcases lv_cat v with e | e <;> simp [e]
theorem met_of {l : Launch} {G : va_G} {tc : Nat → ClassId} {D : Nat → Nat} {L : List LC} {y : MethodName} {cc : ByteArray} {nL : Nat} {ret : Option FieldType} {rm : Room} {vs : List Value} {M : Mm} {Q : Option Value → Mm → Prop} (hy : plainName y.cls = true) (hlen : (vs.map fun v => v.category).sum ≤ nL) (h : WP l G tc D L (fun _ => True) y.cls cc nL rm (.code y cc nL ret) 0 (entL nL vs) [] M (RetQ cc ret Q)) : Met l y (.code y cc nL ret :: tbG) rm (PcV G tc D L vs M) (QcV G tc D L Q) 0 0 (inA D L) := by
  refine Met.ofW (cc := cc) (maxL := nL) (ret := ret) hy rfl ?_
  intro p e s m args below meth c s₁ B hml hv
  obtain ⟨rfl, hP, hK, hN, hJ⟩ := hv
  have hts := atoms_spec (ws := .code y cc nL ret :: tbG) B.pre
  have hown : s.vm.findClass y.cls = some m.cls := findClass_of_methodNamed B.named
  have hlocks := B.notSynchronized
  have hl := lv_entry (vs.map (cv D)) (n := nL) (by rw [lg_cat]; exact hlen)
  rw [lg_entry_eq]
  generalize (lg_sl (vs.map (cv D)) ++ List.replicate (nL - (lg_sl (vs.map (cv D))).length) Slot.unset).toArray = ls at hl ⊢
  refine h p e s m _ below meth c 0 0 _ ⟨B.exec, B.bytes, hml, hown, hts, hK, hN, trivial, hJ, Nat.zero_le _, Nat.zero_le _⟩ ?_ s.heap [] ls ⟨hP, va_S.rf, hl.1, hl.2.1, fun i v hi => by
    have := hl.2.2 _ (entL_in (D := D) vs nL 0 i v hi)
    simpa using this⟩
  intro pc' lv' st' M' H' locs' ls' hq hH
  rcases hq with ⟨e1, e2, e3, e4⟩ | ⟨v, e1, e2, e3, e4⟩ | ⟨v, e1, e2, e0, e3, e4⟩ | ⟨v, e1, e2, e3, e4⟩
  · subst e3
    exact W.vret B.exec B.bytes (by rw [B.returns, e1]) (fun t ht _ => ⟨⟨none, M', rfl, e4, by rw [ht]; exact hH.1⟩, hH.2.1.F ht⟩) hH.2.1.2.2 e2
  · subst e3
    exact W.iret B.exec B.bytes (by rw [B.returns, e1]) (fun t ht _ => ⟨⟨some (.int v), M', rfl, e4, by rw [ht]; exact hH.1⟩, hH.2.1.F ht⟩) hH.2.1.2.2 e2
  · subst e3
    exact W.zret (ty := .boolean) B.exec B.bytes (by rw [B.returns, e1]) (by rcases e0 with rfl | rfl <;> decide) (fun t ht _ => ⟨⟨some (.int v), M', rfl, e4, by rw [ht]; exact hH.1⟩, hH.2.1.F ht⟩) hH.2.1.2.2 e2
  · subst e3
    exact W.lret B.exec B.bytes (by rw [B.returns, e1]) (fun t ht _ => ⟨⟨some (.long v), M', rfl, e4, by rw [ht]; exact hH.1⟩, hH.2.1.F ht⟩) hH.2.1.2.2 e2
theorem PcV_blind {G : va_G} {tc : Nat → ClassId} {D : Nat → Nat} {L : List LC} {vs : List Value} {M : Mm} : FrameBlind (PcV G tc D L vs M) := by
  intro a U g mk h
  obtain ⟨h0, hP, hK, hN, hJ⟩ := h
  exact ⟨h0, hP, va_K.moved (u := U) (U := U.calling g mk a) (Vm.Alike.refl U.vm) hK, nwV_same (u := U) rfl hN, hJ⟩
section WPC
variable {l : Launch} {G : va_G} {tc : Nat → ClassId} {D : Nat → Nat} {L : List LC} {EX : State → Prop} {own : String} {cc : ByteArray} {nL : Nat} {rm : Room} {wc : Cond} {pc : Nat} {lv : List (Option Value)} {st : List Value} {M : Mm} {Q : Nat → List (Option Value) → List Value → Mm → Prop}
theorem run_goes {p : Program} {e : Env} {s : State} {m : MethodId} {args : Array Value} {below : List Frame} {meth : Method} {c : Code} {H : Heap} {locs : List Loc} {cells slots : Nat} {Z : State → Prop} {ls : Array Slot} {st0 : List Value} {a : Array Value} {Q' : Option Value → Mm → Prop}
    (hr : va_Run p l e rm s m args below meth c H locs cells slots 0 0 (F0 m pc ls st0) (st.map (cv D)) (QcV G tc D L Q' a) (inA D L)) (hS : va_S (inA D L) s.heap H locs)
    (kk : ∀ (r : Option Value) (M' : Mm) (H1 : Heap) (locs1 : List Loc), Q' r M' → va_P G vwCl (mkW tc D M' 0 L) H1 → va_S (inA D L) s.heap H1 locs1 → W p l e rm s m args below meth c H1 locs1 cells slots Z (F0 m (pc + 3) ls ((r.toList ++ st).map (cv D)))) : W p l e rm s m args below meth c H locs cells slots Z (F0 m pc ls st0) := by
  intro T hT X
  obtain ⟨v, st₀, t, T', Lc, h0, X', hL, e1, e2, ⟨⟨r, M', hv, hq, hP⟩, hz, hk⟩, stp⟩ := hr T hT X
  cases hv
  rw [h0] at hz hk
  obtain ⟨t2, a1, b1⟩ := kk r M' T'.heap (locs ++ Lc) hq (by rw [e1]; exact hP)
    ⟨Nat.le_trans hS.1 (by rw [e1]; exact hz), fun q h1 h2 => by rw [e1, hk q (Nat.lt_of_lt_of_le h1 hS.1) h2]; exact hS.2.1 q h1 h2, fun q hq => by
      rcases List.mem_append.mp hq with h | h
      · exact hS.2.2 q h
      · exact hL q h⟩ T' rfl X'
  refine ⟨t2, stp t2 ?_, b1⟩
  have e3 : ((r.map (cv D)).toList ++ st.map (cv D)) = (r.toList ++ st).map (cv D) := by cases r <;> rfl
  show Steps _ _ _ (T'.setTop { (F0 m pc ls st0) with pc := pc + 3, stack := (r.map (cv D)).toList ++ st.map (cv D) }) t2
  rw [e3]
  exact a1
/-- what the tables say of a call -/
def LkV (own : String) (index : Nat) (y : MethodName) (cc' : ByteArray) (nL' : Nat) (ret' : Option FieldType) (n : Nat) : Prop :=
  Cond.methodLink own index y ∈ tbG ∧ Cond.code y cc' nL' ret' ∈ tbG ∧ Cond.instanceMethod y ∈ tbG ∧ Cond.selects y.cls y y ∈ tbG ∧ Cond.initialized y.cls ∈ tbG ∧ plainName y.cls = true ∧ y.cls ≠ "java/lang/invoke/MethodHandle" ∧ y.cls ≠ "java/lang/invoke/VarHandle" ∧ (parseMethodDescriptor y.desc).map (fun d => d.parameters.length) = some n
def LkS (own : String) (index : Nat) (y : MethodName) (cc' : ByteArray) (nL' : Nat) (ret' : Option FieldType) (n : Nat) : Prop :=
  Cond.methodLink own index y ∈ tbG ∧ Cond.code y cc' nL' ret' ∈ tbG ∧ Cond.static y ∈ tbG ∧ Cond.initialized y.cls ∈ tbG ∧ plainName y.cls = true ∧ y.cls ≠ "java/lang/invoke/MethodHandle" ∧ y.cls ≠ "java/lang/invoke/VarHandle" ∧ (parseMethodDescriptor y.desc).map (fun d => d.parameters.length) = some n
def LkN (own : String) (index : Nat) (y : MethodName) (host : String) (cc' : ByteArray) (nL' : Nat) (ret' : Option FieldType) (n : Nat) : Prop :=
  (own, index, y, host) ∈ nestM ∧ Cond.code y cc' nL' ret' ∈ tbG ∧ Cond.static y ∈ tbG ∧ Cond.initialized y.cls ∈ tbG ∧ plainName y.cls = true ∧ y.cls ≠ "java/lang/invoke/MethodHandle" ∧ y.cls ≠ "java/lang/invoke/VarHandle" ∧ (parseMethodDescriptor y.desc).map (fun d => d.parameters.length) = some n
theorem WP.callV {b ci N n index nL' : Nat} {T : u_T} {fs : List (Option Nat)} {y : MethodName} {cc' : ByteArray} {ret' : Option FieldType} {rm' : Room} {Q' : Option Value → Mm → Prop} {st1 : List Value} (As : List Value) (hd : decode cc pc = .ok (.invokevirtual index, 3)) (lk : LkV own index y cc' nL' ret' n) (hL : L[b]? = some (.inl (ci, fs))) (hc : vwCl[ci]? = some (y.cls, T, N)) (hn : As.length = n) (hfit : ((Value.ref b :: As).map fun v => v.category).sum ≤ nL') (hroom : rm'.cells = 0 ∧ rm'.slots = 0 ∧ rm'.frames + 1 ≤ rm.frames ∧ 8 + (nL' + 11) + rm'.locals ≤ rm.locals) (hst : (st.map fun v => v.category).sum ≤ 8) (he : As.reverse ++ .ref b :: st = st1)
    (hM : WP l G tc D L (fun _ => True) y.cls cc' nL' rm' (.code y cc' nL' ret') 0 (entL nL' (.ref b :: As)) [] M (RetQ cc' ret' Q')) (k : ∀ (r : Option Value) (M' : Mm), Q' r M' → WP l G tc D L EX own cc nL rm wc (pc + 3) lv (r.toList ++ st) M' Q) : WP l G tc D L EX own cc nL rm wc pc lv st1 M Q := by
  intro p e s m args below meth c cells slots Z hC hQ H locs ls hH
  obtain ⟨k1, k2, k3, k4, k5, k6, k7, k8, k9⟩ := lk
  obtain ⟨r1, r2, r3, r4⟩ := hroom
  have hts := hC.2.2.2.2.1
  have ok : ∀ w ∈ tbG, w.before args s = true := fun w h => hts w (List.mem_cons_of_mem _ h)
  have hP := hH.1
  have hK := hC.2.2.2.2.2.1
  have hN := hC.2.2.2.2.2.2.1
  have hJ := hC.2.2.2.2.2.2.2.2.1
  subst he
  have hms : (st.map (cv D)).map (fun v => v.category) = st.map fun v => v.category := by rw [List.map_map]; exact List.map_congr_left (fun v _ => cv_cat D v)
  refine run_goes (va_runV (As := As.map (cv D)) (rest := st.map (cv D)) (b := D b) (n := n) (index := index) ⟨hC.1, hC.2.1, hC.2.2.1, hC.2.2.2.1, hts⟩ (met_of k6 hfit hM) ⟨callB_of n hts (gi_tb k2) rfl r1 r2 (ok _ k5) (ok _ k1) ⟨k7, k8, k9⟩ ⟨r3, r4⟩, ok _ k3, ok _ k4⟩ ⟨PcV_blind, va_recv hK hP hc (mkW_at hL), fun U hU hW => ⟨by rfl, by rw [hU]; exact hP, va_K.moved hW.alike hK, nwV_warm hW hN, hJ⟩⟩ rfl (by rw [List.length_map]; exact hn) (hH.2.2.1) (by simp [cv]) (lv_room (by rw [hms]; exact hst)) hd ⟨hC.2.2.2.2.2.2.2.2.2.1, hC.2.2.2.2.2.2.2.2.2.2⟩) hH.2.1 (fun r M' H1 locs1 hq hP1 hS1 => k r M' hq p e s m args below meth c cells slots Z hC hQ H1 locs1 ls ⟨hP1, hS1, hH.2.2⟩)
theorem WP.callS {n index nL' : Nat} {y : MethodName} {cc' : ByteArray} {ret' : Option FieldType} {rm' : Room} {Q' : Option Value → Mm → Prop} {st1 : List Value} (As : List Value) (hd : decode cc pc = .ok (.invokestatic index, 3)) (lk : LkS own index y cc' nL' ret' n) (hn : As.length = n) (hfit : (As.map fun v => v.category).sum ≤ nL') (hroom : rm'.cells = 0 ∧ rm'.slots = 0 ∧ rm'.frames + 1 ≤ rm.frames ∧ 8 + (nL' + 11) + rm'.locals ≤ rm.locals) (hst : (st.map fun v => v.category).sum ≤ 8) (he : As.reverse ++ st = st1)
    (hM : WP l G tc D L (fun _ => True) y.cls cc' nL' rm' (.code y cc' nL' ret') 0 (entL nL' As) [] M (RetQ cc' ret' Q')) (k : ∀ (r : Option Value) (M' : Mm), Q' r M' → WP l G tc D L EX own cc nL rm wc (pc + 3) lv (r.toList ++ st) M' Q) : WP l G tc D L EX own cc nL rm wc pc lv st1 M Q := by
  intro p e s m args below meth c cells slots Z hC hQ H locs ls hH
  obtain ⟨k1, k2, k3, k5, k6, k7, k8, k9⟩ := lk
  obtain ⟨r1, r2, r3, r4⟩ := hroom
  have hts := hC.2.2.2.2.1
  have ok : ∀ w ∈ tbG, w.before args s = true := fun w h => hts w (List.mem_cons_of_mem _ h)
  have hP := hH.1
  have hK := hC.2.2.2.2.2.1
  have hN := hC.2.2.2.2.2.2.1
  have hJ := hC.2.2.2.2.2.2.2.2.1
  subst he
  have hms : (st.map (cv D)).map (fun v => v.category) = st.map fun v => v.category := by rw [List.map_map]; exact List.map_congr_left (fun v _ => cv_cat D v)
  refine run_goes (va_runS (As := As.map (cv D)) (rest := st.map (cv D)) (n := n) (index := index) ⟨hC.1, hC.2.1, hC.2.2.1, hC.2.2.2.1, hts⟩ (met_of k6 hfit hM) ⟨callB_of n hts (gi_tb k2) rfl r1 r2 (ok _ k5) (ok _ k1) ⟨k7, k8, k9⟩ ⟨r3, r4⟩, ok _ k3⟩ ⟨PcV_blind, fun U hU hW => ⟨by rfl, by rw [hU]; exact hP, va_K.moved hW.alike hK, nwV_warm hW hN, hJ⟩⟩ rfl (by rw [List.length_map]; exact hn) (hH.2.2.1) (by simp) (lv_room (by rw [hms]; exact hst)) hd ⟨hC.2.2.2.2.2.2.2.2.2.1, hC.2.2.2.2.2.2.2.2.2.2⟩) hH.2.1 (fun r M' H1 locs1 hq hP1 hS1 => k r M' hq p e s m args below meth c cells slots Z hC hQ H1 locs1 ls ⟨hP1, hS1, hH.2.2⟩)
theorem WP.callN {n index nL' : Nat} {y : MethodName} {host : String} {cc' : ByteArray} {ret' : Option FieldType} {rm' : Room} {Q' : Option Value → Mm → Prop} {st1 : List Value} (As : List Value) (hd : decode cc pc = .ok (.invokestatic index, 3)) (lk : LkN own index y host cc' nL' ret' n) (hn : As.length = n) (hfit : (As.map fun v => v.category).sum ≤ nL') (hroom : rm'.cells = 0 ∧ rm'.slots = 0 ∧ rm'.frames + 1 ≤ rm.frames ∧ 8 + (nL' + 11) + rm'.locals ≤ rm.locals) (hst : (st.map fun v => v.category).sum ≤ 8) (he : As.reverse ++ st = st1)
    (hM : WP l G tc D L (fun _ => True) y.cls cc' nL' rm' (.code y cc' nL' ret') 0 (entL nL' As) [] M (RetQ cc' ret' Q')) (k : ∀ (r : Option Value) (M' : Mm), Q' r M' → WP l G tc D L EX own cc nL rm wc (pc + 3) lv (r.toList ++ st) M' Q) : WP l G tc D L EX own cc nL rm wc pc lv st1 M Q := by
  intro p e s m args below meth c cells slots Z hC hQ H locs ls hH
  obtain ⟨k1, k2, k3, k5, k6, k7, k8, k9⟩ := lk
  obtain ⟨r1, r2, r3, r4⟩ := hroom
  have hts := hC.2.2.2.2.1
  have ok : ∀ w ∈ tbG, w.before args s = true := fun w h => hts w (List.mem_cons_of_mem _ h)
  have hP := hH.1
  have hK := hC.2.2.2.2.2.1
  have hN := hC.2.2.2.2.2.2.1
  have hJ := hC.2.2.2.2.2.2.2.2.1
  subst he
  have hms : (st.map (cv D)).map (fun v => v.category) = st.map fun v => v.category := by rw [List.map_map]; exact List.map_congr_left (fun v _ => cv_cat D v)
  refine run_goes (va_runSN (As := As.map (cv D)) (rest := st.map (cv D)) (n := n) (index := index) (host := host) ⟨hC.1, hC.2.1, hC.2.2.1, hC.2.2.2.1, hts⟩ (met_of k6 hfit hM) ⟨va_cnB n hts (gi_tb k2) rfl r1 r2 (hN _ k1) (ok _ k5) ⟨k7, k8, k9⟩ ⟨r3, r4⟩, ok _ k3, trivial⟩ ⟨PcV_blind, fun U hU hW => ⟨by rfl, by rw [hU]; exact hP, va_K.moved hW.alike hK, nwV_warm hW hN, hJ⟩⟩ rfl (by rw [List.length_map]; exact hn) (hH.2.2.1) (by simp) (lv_room (by rw [hms]; exact hst)) hd ⟨hC.2.2.2.2.2.2.2.2.2.1, hC.2.2.2.2.2.2.2.2.2.2⟩) hH.2.1 (fun r M' H1 locs1 hq hP1 hS1 => k r M' hq p e s m args below meth c cells slots Z hC hQ H1 locs1 ls ⟨hP1, hS1, hH.2.2⟩)
/-- the ends -/
theorem WP.vret {Qr : Option Value → Mm → Prop} (hd : decode cc pc = .ok (.return_, 1)) (h : Qr none M) : WP l G tc D L EX own cc nL rm wc pc lv [] M (RetQ cc none Qr) := WP.done (Or.inl ⟨rfl, hd, rfl, h⟩)
theorem WP.iret {Qr : Option Value → Mm → Prop} {v : Int32} (hd : decode cc pc = .ok (.ireturn, 1)) (h : Qr (some (.int v)) M) : WP l G tc D L EX own cc nL rm wc pc lv [.int v] M (RetQ cc (some .int) Qr) := WP.done (Or.inr (Or.inl ⟨v, rfl, hd, rfl, h⟩))
theorem WP.zret {Qr : Option Value → Mm → Prop} {v : Int32} (hd : decode cc pc = .ok (.ireturn, 1)) (hv : v = 0 ∨ v = 1) (h : Qr (some (.int v)) M) : WP l G tc D L EX own cc nL rm wc pc lv [.int v] M (RetQ cc (some .boolean) Qr) := WP.done (Or.inr (Or.inr (Or.inl ⟨v, rfl, hd, hv, rfl, h⟩)))
theorem WP.lret {Qr : Option Value → Mm → Prop} {v : Int64} (hd : decode cc pc = .ok (.lreturn, 1)) (h : Qr (some (.long v)) M) : WP l G tc D L EX own cc nL rm wc pc lv [.long v] M (RetQ cc (some .long) Qr) := WP.done (Or.inr (Or.inr (Or.inr ⟨v, rfl, hd, rfl, h⟩)))
end WPC
end
section
/-! ===== what the functions are made of, and the rules in their words ===== -/
def rdI (M : Mm) (k n : Nat) (i : Int32) : Option Int32 := if i < 0 ∨ n ≤ i.toNatClampNeg then none else some (M.1 k i.toNatClampNeg)
def rdL (M : Mm) (k n : Nat) (i : Int32) : Option Int64 := if i < 0 ∨ n ≤ i.toNatClampNeg then none else some (M.2 k i.toNatClampNeg)
def wrI (M : Mm) (k n : Nat) (i v : Int32) : Option Mm := if i < 0 ∨ n ≤ i.toNatClampNeg then none else some (up1 M k i.toNatClampNeg v)
def wrZ (M : Mm) (k n : Nat) (i v : Int32) : Option Mm := if i < 0 ∨ n ≤ i.toNatClampNeg then none else if v = 0 ∨ v = 1 then some (up1 M k i.toNatClampNeg v) else none
def wrL (M : Mm) (k n : Nat) (i : Int32) (v : Int64) : Option Mm := if i < 0 ∨ n ≤ i.toNatClampNeg then none else some (up2 M k i.toNatClampNeg v)
def wrF (M : Mm) (k j : Nat) (v : Int32) : Option Mm := some (up1 M k j v)
def ckR (base n : Nat) (i : Int32) : Option Nat := if i < 0 ∨ n ≤ i.toNatClampNeg then none else some (base + i.toNatClampNeg)
def gdB (v : Int32) : Option Int32 := if v = 0 ∨ v = 1 then some v else none
theorem gdB_ok {v w : Int32} (h : gdB v = some w) : v = w ∧ (w = 0 ∨ w = 1) := by
  unfold gdB at h
  by_cases c : v = 0 ∨ v = 1
  · rw [if_pos c] at h; cases h; exact ⟨rfl, c⟩
  · rw [if_neg c] at h; cases h
theorem rdI_ok {M : Mm} {k n : Nat} {i v : Int32} (h : rdI M k n i = some v) : vp_in i n ∧ M.1 k i.toNatClampNeg = v := by
  unfold rdI at h
  by_cases c : i < 0 ∨ n ≤ i.toNatClampNeg
  · rw [if_pos c] at h; cases h
  · rw [if_neg c] at h; exact ⟨c, Option.some.inj h⟩
theorem rdL_ok {M : Mm} {k n : Nat} {i : Int32} {v : Int64} (h : rdL M k n i = some v) : vp_in i n ∧ M.2 k i.toNatClampNeg = v := by
  unfold rdL at h
  by_cases c : i < 0 ∨ n ≤ i.toNatClampNeg
  · rw [if_pos c] at h; cases h
  · rw [if_neg c] at h; exact ⟨c, Option.some.inj h⟩
theorem wrI_ok {M M' : Mm} {k n : Nat} {i v : Int32} (h : wrI M k n i v = some M') : vp_in i n ∧ up1 M k i.toNatClampNeg v = M' := by
  unfold wrI at h
  by_cases c : i < 0 ∨ n ≤ i.toNatClampNeg
  · rw [if_pos c] at h; cases h
  · rw [if_neg c] at h; exact ⟨c, Option.some.inj h⟩
theorem wrZ_ok {M M' : Mm} {k n : Nat} {i v : Int32} (h : wrZ M k n i v = some M') : vp_in i n ∧ (v = 0 ∨ v = 1) ∧ up1 M k i.toNatClampNeg v = M' := by
  unfold wrZ at h
  by_cases c : i < 0 ∨ n ≤ i.toNatClampNeg
  · rw [if_pos c] at h; cases h
  · rw [if_neg c] at h
    by_cases d : v = 0 ∨ v = 1
    · rw [if_pos d] at h; exact ⟨c, d, Option.some.inj h⟩
    · rw [if_neg d] at h; cases h
theorem wrL_ok {M M' : Mm} {k n : Nat} {i : Int32} {v : Int64} (h : wrL M k n i v = some M') : vp_in i n ∧ up2 M k i.toNatClampNeg v = M' := by
  unfold wrL at h
  by_cases c : i < 0 ∨ n ≤ i.toNatClampNeg
  · rw [if_pos c] at h; cases h
  · rw [if_neg c] at h; exact ⟨c, Option.some.inj h⟩
theorem ckR_ok {base n : Nat} {i : Int32} {k : Nat} (h : ckR base n i = some k) : vp_in i n ∧ base + i.toNatClampNeg = k := by
  unfold ckR at h
  by_cases c : i < 0 ∨ n ≤ i.toNatClampNeg
  · rw [if_pos c] at h; cases h
  · rw [if_neg c] at h; exact ⟨c, Option.some.inj h⟩
theorem ckR_all {base n : Nat} {i : Int32} {k : Nat} {P : Nat → Prop} (h : ckR base n i = some k) (ha : ∀ j, j < n → P (base + j)) : P k := by
  obtain ⟨h1, h2⟩ := ckR_ok h
  rw [← h2]
  exact ha _ (Nat.not_le.mp fun q => h1 (Or.inr q))
def RQI (r : Int32) (M1 : Mm) : Option Value → Mm → Prop := fun x M' => x = some (.int r) ∧ M' = M1
def RQL (r : Int64) (M1 : Mm) : Option Value → Mm → Prop := fun x M' => x = some (.long r) ∧ M' = M1
def RQV (M1 : Mm) : Option Value → Mm → Prop := fun x M' => x = none ∧ M' = M1
def lp {α β : Type} (F : (α → Option β) → α → Option β) : Nat → α → Option β
  | 0, _ => none
  | n + 1, a => F (lp F n) a
theorem lp_ind {α β : Type} {F : (α → Option β) → α → Option β} {P : α → β → Prop} (hs : ∀ (K : α → Option β), (∀ (a : α) (R : β), K a = some R → P a R) → ∀ (a : α) (R : β), F K a = some R → P a R) : ∀ (n : Nat) (a : α) (R : β), lp F n a = some R → P a R
  | 0, a, R, h => by cases h
  | n + 1, a, R, h => hs (lp F n) (lp_ind hs n) a R h
def fgt : List Bool → List (Option Value) → List (Option Value)
  | true :: m, x :: t => x :: fgt m t
  | false :: m, _ :: t => none :: fgt m t
  | _, t => t.map (fun _ => none)
theorem fgt_sub : ∀ (m : List Bool) (lv : List (Option Value)) (i : Nat) (v : Value), (fgt m lv)[i]? = some (some v) → lv[i]? = some (some v)
  | true :: m, x :: t, 0, v, h => by simpa [fgt] using h
  | true :: m, x :: t, i + 1, v, h => by simp [fgt] at h ⊢; exact fgt_sub m t i v h
  | false :: m, x :: t, 0, v, h => by simp [fgt] at h
  | false :: m, x :: t, i + 1, v, h => by simp [fgt] at h ⊢; exact fgt_sub m t i v h
  | [], t, i, v, h => by
    simp [fgt] at h
  | true :: m, [], i, v, h => by simp [fgt] at h
  | false :: m, [], i, v, h => by simp [fgt] at h
/-- where a tableswitch goes -/
def swT (dflt lo hi : Int) (offs : Array Int) (x : Int32) : Int := if x.toInt < lo ∨ hi < x.toInt then dflt else (offs[(x.toInt - lo).toNat]?).getD dflt
theorem swT_def {dflt lo hi : Int} {offs : Array Int} {x : Int32} (h : x.toInt < lo ∨ hi < x.toInt) : swT dflt lo hi offs x = dflt := by unfold swT; rw [if_pos h]
theorem swT_def2 {dflt lo hi : Int} {offs : Array Int} {x : Int32} (h : lo ≤ x.toInt → x.toInt ≤ hi → (offs[(x.toInt - lo).toNat]?).getD dflt = dflt) : swT dflt lo hi offs x = dflt := by
  unfold swT
  by_cases c : x.toInt < lo ∨ hi < x.toInt
  · rw [if_pos c]
  · rw [if_neg c]; exact h (by omega) (by omega)
section WPQ
variable {l : Launch} {G : va_G} {tc : Nat → ClassId} {D : Nat → Nat} {L : List LC} {EX : State → Prop} {own : String} {cc : ByteArray} {nL : Nat} {rm : Room} {wc : Cond} {pc : Nat} {lv : List (Option Value)} {st : List Value} {M M' : Mm} {Q : Nat → List (Option Value) → List Value → Mm → Prop}
theorem WP.fgt {lv' : List (Option Value)} (m : List Bool) (he : fgt m lv = lv') (k : WP l G tc D L EX own cc nL rm wc pc lv' st M Q) : WP l G tc D L EX own cc nL rm wc pc lv st M Q :=
  fun p e s m' args below meth c cells slots Z hC hQ H locs ls hH => k p e s m' args below meth c cells slots Z hC hQ H locs ls ⟨hH.1, hH.2.1, hH.2.2.1, hH.2.2.2.1, fun i v h => hH.2.2.2.2 i v (fgt_sub m lv i v (by rw [he]; exact h))⟩
theorem WP.ialdQ {a n : Nat} {i v : Int32} (hd : decode cc pc = .ok (.iaload, 1)) (hL : L[a]? = some (.inr (.inl (0, n)))) (hv : rdI M a n i = some v) (k : WP l G tc D L EX own cc nL rm wc (pc + 1) lv (.int v :: st) M Q) : WP l G tc D L EX own cc nL rm wc pc lv (.int i :: .ref a :: st) M Q := by
  obtain ⟨h1, h2⟩ := rdI_ok hv
  subst h2
  exact WP.iald hd hL h1 k
theorem WP.zaldQ {a n : Nat} {i v : Int32} (hd : decode cc pc = .ok (.baload, 1)) (hL : L[a]? = some (.inr (.inl (1, n)))) (hv : rdI M a n i = some v) (k : WP l G tc D L EX own cc nL rm wc (pc + 1) lv (.int v :: st) M Q) : WP l G tc D L EX own cc nL rm wc pc lv (.int i :: .ref a :: st) M Q := by
  obtain ⟨h1, h2⟩ := rdI_ok hv
  subst h2
  exact WP.zald hd hL h1 k
theorem WP.laldQ {a n : Nat} {i : Int32} {v : Int64} (hd : decode cc pc = .ok (.laload, 1)) (hL : L[a]? = some (.inr (.inr (.inl n)))) (hv : rdL M a n i = some v) (k : WP l G tc D L EX own cc nL rm wc (pc + 1) lv (.long v :: st) M Q) : WP l G tc D L EX own cc nL rm wc pc lv (.int i :: .ref a :: st) M Q := by
  obtain ⟨h1, h2⟩ := rdL_ok hv
  subst h2
  exact WP.lald hd hL h1 k
theorem WP.aaldQ {a r base n : Nat} {rs : List Nat} {i : Int32} (hd : decode cc pc = .ok (.aaload, 1)) (hL : L[a]? = some (.inr (.inr (.inr rs)))) (hrs : rs = List.range' base n) (hv : ckR base n i = some r) (k : WP l G tc D L EX own cc nL rm wc (pc + 1) lv (.ref r :: st) M Q) : WP l G tc D L EX own cc nL rm wc pc lv (.int i :: .ref a :: st) M Q := by
  obtain ⟨h1, h2⟩ := ckR_ok hv
  subst hrs
  have hlt : i.toNatClampNeg < n := Nat.not_le.mp fun q => h1 (Or.inr q)
  exact WP.aald hd hL (by rw [List.length_range']; exact h1) (by rw [List.getElem?_range' hlt, ← h2]; simp) k
theorem WP.iastQ {a n : Nat} {i v : Int32} (hd : decode cc pc = .ok (.iastore, 1)) (hL : L[a]? = some (.inr (.inl (0, n)))) (hv : wrI M a n i v = some M') (k : WP l G tc D L EX own cc nL rm wc (pc + 1) lv st M' Q) : WP l G tc D L EX own cc nL rm wc pc lv (.int v :: .int i :: .ref a :: st) M Q := by
  obtain ⟨h1, h2⟩ := wrI_ok hv
  subst h2
  exact WP.iast hd hL h1 k
theorem WP.zastQ {a n : Nat} {i v : Int32} (hd : decode cc pc = .ok (.bastore, 1)) (hL : L[a]? = some (.inr (.inl (1, n)))) (hv : wrZ M a n i v = some M') (k : WP l G tc D L EX own cc nL rm wc (pc + 1) lv st M' Q) : WP l G tc D L EX own cc nL rm wc pc lv (.int v :: .int i :: .ref a :: st) M Q := by
  obtain ⟨h1, h0, h2⟩ := wrZ_ok hv
  subst h2
  exact WP.zast hd hL h1 h0 k
theorem WP.lastQ {a n : Nat} {i : Int32} {v : Int64} (hd : decode cc pc = .ok (.lastore, 1)) (hL : L[a]? = some (.inr (.inr (.inl n)))) (hv : wrL M a n i v = some M') (k : WP l G tc D L EX own cc nL rm wc (pc + 1) lv st M' Q) : WP l G tc D L EX own cc nL rm wc pc lv (.long v :: .int i :: .ref a :: st) M Q := by
  obtain ⟨h1, h2⟩ := wrL_ok hv
  subst h2
  exact WP.last hd hL h1 k
theorem WP.putF {a ci index N j : Nat} {C : String} {T : u_T} {fs : List (Option Nat)} {ty0 : Nat → FieldType} {ty : FieldType} {v : Int32} (hd : decode cc pc = .ok (.putfield index, 3)) (hL : L[a]? = some (.inl (ci, fs))) (hc : vwCl[ci]? = some (C, T, N)) (hin : ∀ w ∈ u_ws C T N, w ∈ tbG) (hty : ∀ k, k < N → parseFieldDescriptor (T k).2.2.1 = some (ty0 k)) (hnm : ∀ a, a < N → ∀ b, b < N → a ≠ b → (T a).2.1 ≠ (T b).2.1) (hj : j < N) (hw : Cond.fieldLink own index (T j).1 (T j).2.1 (T j).2.2.1 ∈ tbG) (hfin : (T j).2.2.2 = false) (hdy : parseFieldDescriptor (T j).2.2.1 = some ty) (hn : narrow ty (.int v) = .int v) (hfit : fits ty (.int v) = true) (hf : fs[j]? = some none) (hv : wrF M a j v = some M') (k : WP l G tc D L EX own cc nL rm wc (pc + 3) lv st M' Q) : WP l G tc D L EX own cc nL rm wc pc lv (.int v :: .ref a :: st) M Q := by
  cases hv
  exact WP.putI hd hL hc hin hty hnm hj hw hfin hdy hn hfit hf k
theorem WP.tbl {dflt lo hi : Int} {offs : Array Int} {len : Nat} {x : Int32} {off : Int} {tgt : Nat} (hd : decode cc pc = .ok (.tableswitch dflt lo hi offs, len)) (hs : swT dflt lo hi offs x = off) (ht : (pc : Int) + off = (tgt : Int)) (k : WP l G tc D L EX own cc nL rm wc tgt lv st M Q) (hz : (offs.size : Int) = hi - lo + 1 := by decide) : WP l G tc D L EX own cc nL rm wc pc lv (.int x :: st) M Q := by
  unfold swT at hs
  by_cases c : x.toInt < lo ∨ hi < x.toInt
  · rw [if_pos c] at hs
    exact WP.tblOut hd c (by rw [hs]; exact ht) k
  · rw [if_neg c] at hs
    have hlt : (x.toInt - lo).toNat < offs.size := by omega
    refine WP.tblIn (off := off) hd (fun h => c (Or.inl h)) (fun h => c (Or.inr h)) ?_ ht k
    rw [Array.getElem?_eq_getElem hlt] at hs ⊢
    simpa using hs
section
variable {b ci N n index nL' : Nat} {T : u_T} {fs : List (Option Nat)} {y : MethodName} {host : String} {cc' : ByteArray} {ret' : Option FieldType} {rm' : Room} {st1 : List Value} {r : Int32} {rl : Int64}
theorem WP.callVI (As : List Value) (hd : decode cc pc = .ok (.invokevirtual index, 3)) (lk : LkV own index y cc' nL' ret' n) (hL : L[b]? = some (.inl (ci, fs))) (hc : vwCl[ci]? = some (y.cls, T, N)) (hn : As.length = n) (hfit : ((Value.ref b :: As).map fun v => v.category).sum ≤ nL') (hroom : rm'.cells = 0 ∧ rm'.slots = 0 ∧ rm'.frames + 1 ≤ rm.frames ∧ 8 + (nL' + 11) + rm'.locals ≤ rm.locals) (hst : (st.map fun v => v.category).sum ≤ 8) (he : As.reverse ++ .ref b :: st = st1)
    (hM : WP l G tc D L (fun _ => True) y.cls cc' nL' rm' (.code y cc' nL' ret') 0 (entL nL' (.ref b :: As)) [] M (RetQ cc' ret' (RQI r M'))) (k : WP l G tc D L EX own cc nL rm wc (pc + 3) lv (.int r :: st) M' Q) : WP l G tc D L EX own cc nL rm wc pc lv st1 M Q :=
  WP.callV As hd lk hL hc hn hfit hroom hst he hM (fun x M2 h => by obtain ⟨rfl, rfl⟩ := h; exact k)
theorem WP.callVL (As : List Value) (hd : decode cc pc = .ok (.invokevirtual index, 3)) (lk : LkV own index y cc' nL' ret' n) (hL : L[b]? = some (.inl (ci, fs))) (hc : vwCl[ci]? = some (y.cls, T, N)) (hn : As.length = n) (hfit : ((Value.ref b :: As).map fun v => v.category).sum ≤ nL') (hroom : rm'.cells = 0 ∧ rm'.slots = 0 ∧ rm'.frames + 1 ≤ rm.frames ∧ 8 + (nL' + 11) + rm'.locals ≤ rm.locals) (hst : (st.map fun v => v.category).sum ≤ 8) (he : As.reverse ++ .ref b :: st = st1)
    (hM : WP l G tc D L (fun _ => True) y.cls cc' nL' rm' (.code y cc' nL' ret') 0 (entL nL' (.ref b :: As)) [] M (RetQ cc' ret' (RQL rl M'))) (k : WP l G tc D L EX own cc nL rm wc (pc + 3) lv (.long rl :: st) M' Q) : WP l G tc D L EX own cc nL rm wc pc lv st1 M Q :=
  WP.callV As hd lk hL hc hn hfit hroom hst he hM (fun x M2 h => by obtain ⟨rfl, rfl⟩ := h; exact k)
theorem WP.callVV (As : List Value) (hd : decode cc pc = .ok (.invokevirtual index, 3)) (lk : LkV own index y cc' nL' ret' n) (hL : L[b]? = some (.inl (ci, fs))) (hc : vwCl[ci]? = some (y.cls, T, N)) (hn : As.length = n) (hfit : ((Value.ref b :: As).map fun v => v.category).sum ≤ nL') (hroom : rm'.cells = 0 ∧ rm'.slots = 0 ∧ rm'.frames + 1 ≤ rm.frames ∧ 8 + (nL' + 11) + rm'.locals ≤ rm.locals) (hst : (st.map fun v => v.category).sum ≤ 8) (he : As.reverse ++ .ref b :: st = st1)
    (hM : WP l G tc D L (fun _ => True) y.cls cc' nL' rm' (.code y cc' nL' ret') 0 (entL nL' (.ref b :: As)) [] M (RetQ cc' ret' (RQV M'))) (k : WP l G tc D L EX own cc nL rm wc (pc + 3) lv st M' Q) : WP l G tc D L EX own cc nL rm wc pc lv st1 M Q :=
  WP.callV As hd lk hL hc hn hfit hroom hst he hM (fun x M2 h => by obtain ⟨rfl, rfl⟩ := h; exact k)
theorem WP.callSI (As : List Value) (hd : decode cc pc = .ok (.invokestatic index, 3)) (lk : LkS own index y cc' nL' ret' n) (hn : As.length = n) (hfit : (As.map fun v => v.category).sum ≤ nL') (hroom : rm'.cells = 0 ∧ rm'.slots = 0 ∧ rm'.frames + 1 ≤ rm.frames ∧ 8 + (nL' + 11) + rm'.locals ≤ rm.locals) (hst : (st.map fun v => v.category).sum ≤ 8) (he : As.reverse ++ st = st1)
    (hM : WP l G tc D L (fun _ => True) y.cls cc' nL' rm' (.code y cc' nL' ret') 0 (entL nL' As) [] M (RetQ cc' ret' (RQI r M'))) (k : WP l G tc D L EX own cc nL rm wc (pc + 3) lv (.int r :: st) M' Q) : WP l G tc D L EX own cc nL rm wc pc lv st1 M Q :=
  WP.callS As hd lk hn hfit hroom hst he hM (fun x M2 h => by obtain ⟨rfl, rfl⟩ := h; exact k)
theorem WP.callSL (As : List Value) (hd : decode cc pc = .ok (.invokestatic index, 3)) (lk : LkS own index y cc' nL' ret' n) (hn : As.length = n) (hfit : (As.map fun v => v.category).sum ≤ nL') (hroom : rm'.cells = 0 ∧ rm'.slots = 0 ∧ rm'.frames + 1 ≤ rm.frames ∧ 8 + (nL' + 11) + rm'.locals ≤ rm.locals) (hst : (st.map fun v => v.category).sum ≤ 8) (he : As.reverse ++ st = st1)
    (hM : WP l G tc D L (fun _ => True) y.cls cc' nL' rm' (.code y cc' nL' ret') 0 (entL nL' As) [] M (RetQ cc' ret' (RQL rl M'))) (k : WP l G tc D L EX own cc nL rm wc (pc + 3) lv (.long rl :: st) M' Q) : WP l G tc D L EX own cc nL rm wc pc lv st1 M Q :=
  WP.callS As hd lk hn hfit hroom hst he hM (fun x M2 h => by obtain ⟨rfl, rfl⟩ := h; exact k)
theorem WP.callSV (As : List Value) (hd : decode cc pc = .ok (.invokestatic index, 3)) (lk : LkS own index y cc' nL' ret' n) (hn : As.length = n) (hfit : (As.map fun v => v.category).sum ≤ nL') (hroom : rm'.cells = 0 ∧ rm'.slots = 0 ∧ rm'.frames + 1 ≤ rm.frames ∧ 8 + (nL' + 11) + rm'.locals ≤ rm.locals) (hst : (st.map fun v => v.category).sum ≤ 8) (he : As.reverse ++ st = st1)
    (hM : WP l G tc D L (fun _ => True) y.cls cc' nL' rm' (.code y cc' nL' ret') 0 (entL nL' As) [] M (RetQ cc' ret' (RQV M'))) (k : WP l G tc D L EX own cc nL rm wc (pc + 3) lv st M' Q) : WP l G tc D L EX own cc nL rm wc pc lv st1 M Q :=
  WP.callS As hd lk hn hfit hroom hst he hM (fun x M2 h => by obtain ⟨rfl, rfl⟩ := h; exact k)
theorem WP.callNI (As : List Value) (hd : decode cc pc = .ok (.invokestatic index, 3)) (lk : LkN own index y host cc' nL' ret' n) (hn : As.length = n) (hfit : (As.map fun v => v.category).sum ≤ nL') (hroom : rm'.cells = 0 ∧ rm'.slots = 0 ∧ rm'.frames + 1 ≤ rm.frames ∧ 8 + (nL' + 11) + rm'.locals ≤ rm.locals) (hst : (st.map fun v => v.category).sum ≤ 8) (he : As.reverse ++ st = st1)
    (hM : WP l G tc D L (fun _ => True) y.cls cc' nL' rm' (.code y cc' nL' ret') 0 (entL nL' As) [] M (RetQ cc' ret' (RQI r M'))) (k : WP l G tc D L EX own cc nL rm wc (pc + 3) lv (.int r :: st) M' Q) : WP l G tc D L EX own cc nL rm wc pc lv st1 M Q :=
  WP.callN As hd lk hn hfit hroom hst he hM (fun x M2 h => by obtain ⟨rfl, rfl⟩ := h; exact k)
end
end WPQ
end
section
/-! ===== the layout of the cells: by program ===== -/
def lay : List LC := [.inl (9, [some 1, some 30, some 32, some 37, some 41, some 43, some 61, some 68]), .inl (2, [some 2, some 21, some 27, some 28, some 29, none]), .inl (0, [some 3, some 4, some 5, some 6, some 19, some 20, none]), .inr (.inl (0, 12)), .inr (.inl (0, 12)), .inr (.inl (1, 12)), .inr (.inr (.inr [7, 8, 9, 10, 11, 12, 13, 14, 15, 16, 17, 18])), .inr (.inl (0, 4)), .inr (.inl (0, 4)), .inr (.inl (0, 4)), .inr (.inl (0, 4)), .inr (.inl (0, 4)), .inr (.inl (0, 4)), .inr (.inl (0, 4)), .inr (.inl (0, 4)), .inr (.inl (0, 4)), .inr (.inl (0, 4)), .inr (.inl (0, 4)), .inr (.inl (0, 4)), .inr (.inl (0, 12)), .inr (.inl (0, 12)), .inl (3, [some 22, some 23, some 24, some 25, some 26, none]), .inr (.inl (0, 50)), .inr (.inl (0, 50)), .inr (.inl (0, 50)), .inr (.inl (0, 50)), .inr (.inl (0, 50)), .inr (.inl (0, 62)), .inr (.inl (0, 62)), .inr (.inl (0, 50)), .inl (4, [some 31, none]), .inr (.inl (0, 12)), .inr (.inr (.inr [33, 34, 35, 36])), .inr (.inl (0, 12)), .inr (.inl (0, 12)), .inr (.inl (0, 12)), .inr (.inl (0, 12)), .inl (6, [some 38, some 39, some 40]), .inr (.inl (0, 50)), .inr (.inl (1, 12)), .inr (.inl (0, 12)), .inl (1, [some 42, none]), .inr (.inl (0, 12)), .inl (5, [some 44, some 45, some 46, some 47, some 54, none]), .inr (.inl (0, 6)), .inr (.inl (0, 6)), .inr (.inl (1, 6)), .inr (.inr (.inr [48, 49, 50, 51, 52, 53])), .inr (.inl (0, 12)), .inr (.inl (0, 12)), .inr (.inl (0, 12)), .inr (.inl (0, 12)), .inr (.inl (0, 12)), .inr (.inl (0, 12)), .inr (.inr (.inr [55, 56, 57, 58, 59, 60])), .inr (.inl (0, 12)), .inr (.inl (0, 12)), .inr (.inl (0, 12)), .inr (.inl (0, 12)), .inr (.inl (0, 12)), .inr (.inl (0, 12)), .inl (8, [some 62, some 63, some 64, none, none]), .inr (.inl (0, 12)), .inr (.inl (0, 12)), .inl (6, [some 65, some 66, some 67]), .inr (.inl (0, 50)), .inr (.inl (1, 12)), .inr (.inl (0, 12)), .inl (7, [none]), .inl (10, [none, some 70, some 71, some 72, some 73, none, some 74, some 75, some 76, some 77, none, some 78, some 79, some 80, some 81, none, some 82, some 83, some 84, some 85, some 86, some 87, some 88, none, some 89, none, some 90, some 91, some 92, some 93, some 94, none, some 95, none]), .inr (.inl (0, 12)), .inr (.inl (0, 12)), .inr (.inl (0, 12)), .inr (.inl (0, 48)), .inr (.inl (0, 50)), .inr (.inl (0, 50)), .inr (.inl (0, 50)), .inr (.inl (0, 50)), .inr (.inl (0, 12)), .inr (.inl (0, 12)), .inr (.inr (.inl 12)), .inr (.inl (0, 12)), .inr (.inl (0, 12)), .inr (.inl (0, 12)), .inr (.inl (1, 12)), .inr (.inl (0, 12)), .inr (.inl (0, 12)), .inr (.inl (0, 50)), .inr (.inl (0, 48)), .inr (.inl (0, 12)), .inr (.inl (0, 6)), .inr (.inl (0, 6)), .inr (.inl (1, 6)), .inr (.inl (0, 72)), .inr (.inl (0, 72)), .inr (.inl (0, 12))]
theorem rows_6 {i : Int32} {k : Nat} (h : ckR 7 12 i = some k) : lay[k]? = some (.inr (.inl (0, 4))) := ckR_all (P := fun k => lay[k]? = some (.inr (.inl (0, 4)))) h (fun j hj => match j, hj with | 0, _ => rfl | 1, _ => rfl | 2, _ => rfl | 3, _ => rfl | 4, _ => rfl | 5, _ => rfl | 6, _ => rfl | 7, _ => rfl | 8, _ => rfl | 9, _ => rfl | 10, _ => rfl | 11, _ => rfl | j + 12, hz => absurd hz (by omega))
theorem rows_32 {i : Int32} {k : Nat} (h : ckR 33 4 i = some k) : lay[k]? = some (.inr (.inl (0, 12))) := ckR_all (P := fun k => lay[k]? = some (.inr (.inl (0, 12)))) h (fun j hj => match j, hj with | 0, _ => rfl | 1, _ => rfl | 2, _ => rfl | 3, _ => rfl | j + 4, hz => absurd hz (by omega))
theorem rows_47 {i : Int32} {k : Nat} (h : ckR 48 6 i = some k) : lay[k]? = some (.inr (.inl (0, 12))) := ckR_all (P := fun k => lay[k]? = some (.inr (.inl (0, 12)))) h (fun j hj => match j, hj with | 0, _ => rfl | 1, _ => rfl | 2, _ => rfl | 3, _ => rfl | 4, _ => rfl | 5, _ => rfl | j + 6, hz => absurd hz (by omega))
theorem rows_54 {i : Int32} {k : Nat} (h : ckR 55 6 i = some k) : lay[k]? = some (.inr (.inl (0, 12))) := ckR_all (P := fun k => lay[k]? = some (.inr (.inl (0, 12)))) h (fun j hj => match j, hj with | 0, _ => rfl | 1, _ => rfl | 2, _ => rfl | 3, _ => rfl | 4, _ => rfl | 5, _ => rfl | j + 6, hz => absurd hz (by omega))
theorem in_X0 : ∀ w ∈ u_ws RX0 TX0 7, w ∈ tbG := by
  have h1 : ∀ w ∈ u_ws RX0 TX0 7, w ∈ lw_tbl := by decide +kernel
  have h2 : ∀ w ∈ u_ws RX0 TX0 7, goodWord w = true := by decide +kernel
  exact fun w h => tbG_of (h1 w h) (h2 w h)
theorem in_X1 : ∀ w ∈ u_ws RX1 TX1 2, w ∈ tbG := by
  have h1 : ∀ w ∈ u_ws RX1 TX1 2, w ∈ lw_tbl := by decide +kernel
  have h2 : ∀ w ∈ u_ws RX1 TX1 2, goodWord w = true := by decide +kernel
  exact fun w h => tbG_of (h1 w h) (h2 w h)
theorem in_X2 : ∀ w ∈ u_ws RX2 TX2 6, w ∈ tbG := by
  have h1 : ∀ w ∈ u_ws RX2 TX2 6, w ∈ lw_tbl := by decide +kernel
  have h2 : ∀ w ∈ u_ws RX2 TX2 6, goodWord w = true := by decide +kernel
  exact fun w h => tbG_of (h1 w h) (h2 w h)
theorem in_X3 : ∀ w ∈ u_ws RX3 TX3 6, w ∈ tbG := by
  have h1 : ∀ w ∈ u_ws RX3 TX3 6, w ∈ lw_tbl := by decide +kernel
  have h2 : ∀ w ∈ u_ws RX3 TX3 6, goodWord w = true := by decide +kernel
  exact fun w h => tbG_of (h1 w h) (h2 w h)
theorem in_X4 : ∀ w ∈ u_ws RX4 TX4 2, w ∈ tbG := by
  have h1 : ∀ w ∈ u_ws RX4 TX4 2, w ∈ lw_tbl := by decide +kernel
  have h2 : ∀ w ∈ u_ws RX4 TX4 2, goodWord w = true := by decide +kernel
  exact fun w h => tbG_of (h1 w h) (h2 w h)
theorem in_X5 : ∀ w ∈ u_ws RX5 TX5 6, w ∈ tbG := by
  have h1 : ∀ w ∈ u_ws RX5 TX5 6, w ∈ lw_tbl := by decide +kernel
  have h2 : ∀ w ∈ u_ws RX5 TX5 6, goodWord w = true := by decide +kernel
  exact fun w h => tbG_of (h1 w h) (h2 w h)
theorem in_X6 : ∀ w ∈ u_ws RX6 TX6 3, w ∈ tbG := by
  have h1 : ∀ w ∈ u_ws RX6 TX6 3, w ∈ lw_tbl := by decide +kernel
  have h2 : ∀ w ∈ u_ws RX6 TX6 3, goodWord w = true := by decide +kernel
  exact fun w h => tbG_of (h1 w h) (h2 w h)
theorem in_X7 : ∀ w ∈ u_ws RX7 TX7 1, w ∈ tbG := by
  have h1 : ∀ w ∈ u_ws RX7 TX7 1, w ∈ lw_tbl := by decide +kernel
  have h2 : ∀ w ∈ u_ws RX7 TX7 1, goodWord w = true := by decide +kernel
  exact fun w h => tbG_of (h1 w h) (h2 w h)
theorem in_X8 : ∀ w ∈ u_ws RX8 TX8 5, w ∈ tbG := by
  have h1 : ∀ w ∈ u_ws RX8 TX8 5, w ∈ lw_tbl := by decide +kernel
  have h2 : ∀ w ∈ u_ws RX8 TX8 5, goodWord w = true := by decide +kernel
  exact fun w h => tbG_of (h1 w h) (h2 w h)
theorem in_X9 : ∀ w ∈ u_ws RX9 TX9 8, w ∈ tbG := by
  have h1 : ∀ w ∈ u_ws RX9 TX9 8, w ∈ lw_tbl := by decide +kernel
  have h2 : ∀ w ∈ u_ws RX9 TX9 8, goodWord w = true := by decide +kernel
  exact fun w h => tbG_of (h1 w h) (h2 w h)
theorem in_X10 : ∀ w ∈ u_ws RX10 TX10 34, w ∈ tbG := by
  have h1 : ∀ w ∈ u_ws RX10 TX10 34, w ∈ lw_tbl := by decide +kernel
  have h2 : ∀ w ∈ u_ws RX10 TX10 34, goodWord w = true := by decide +kernel
  exact fun w h => tbG_of (h1 w h) (h2 w h)
theorem wd_81 : Cond.fieldLink RX0 9 (TX0 0).1 (TX0 0).2.1 (TX0 0).2.2.1 ∈ tbG := tbG_of (List.mem_of_getElem? (i := 81) (by decide +kernel)) (by decide +kernel)
theorem wd_82 : Cond.fieldLink RX8 89 (TX0 0).1 (TX0 0).2.1 (TX0 0).2.2.1 ∈ tbG := tbG_of (List.mem_of_getElem? (i := 82) (by decide +kernel)) (by decide +kernel)
theorem wd_83 : Cond.fieldLink RX7 54 (TX0 0).1 (TX0 0).2.1 (TX0 0).2.2.1 ∈ tbG := tbG_of (List.mem_of_getElem? (i := 83) (by decide +kernel)) (by decide +kernel)
theorem wd_84 : Cond.fieldLink RX9 135 (TX0 0).1 (TX0 0).2.1 (TX0 0).2.2.1 ∈ tbG := tbG_of (List.mem_of_getElem? (i := 84) (by decide +kernel)) (by decide +kernel)
theorem wd_85 : Cond.fieldLink RX0 15 (TX0 1).1 (TX0 1).2.1 (TX0 1).2.2.1 ∈ tbG := tbG_of (List.mem_of_getElem? (i := 85) (by decide +kernel)) (by decide +kernel)
theorem wd_86 : Cond.fieldLink RX8 86 (TX0 1).1 (TX0 1).2.1 (TX0 1).2.2.1 ∈ tbG := tbG_of (List.mem_of_getElem? (i := 86) (by decide +kernel)) (by decide +kernel)
theorem wd_87 : Cond.fieldLink RX7 50 (TX0 1).1 (TX0 1).2.1 (TX0 1).2.2.1 ∈ tbG := tbG_of (List.mem_of_getElem? (i := 87) (by decide +kernel)) (by decide +kernel)
theorem wd_88 : Cond.fieldLink RX9 138 (TX0 1).1 (TX0 1).2.1 (TX0 1).2.2.1 ∈ tbG := tbG_of (List.mem_of_getElem? (i := 88) (by decide +kernel)) (by decide +kernel)
theorem wd_89 : Cond.fieldLink RX0 18 (TX0 2).1 (TX0 2).2.1 (TX0 2).2.2.1 ∈ tbG := tbG_of (List.mem_of_getElem? (i := 89) (by decide +kernel)) (by decide +kernel)
theorem wd_90 : Cond.fieldLink RX7 24 (TX0 2).1 (TX0 2).2.1 (TX0 2).2.2.1 ∈ tbG := tbG_of (List.mem_of_getElem? (i := 90) (by decide +kernel)) (by decide +kernel)
theorem wd_91 : Cond.fieldLink RX9 103 (TX0 2).1 (TX0 2).2.1 (TX0 2).2.2.1 ∈ tbG := tbG_of (List.mem_of_getElem? (i := 91) (by decide +kernel)) (by decide +kernel)
theorem wd_92 : Cond.fieldLink RX6 69 (TX0 2).1 (TX0 2).2.1 (TX0 2).2.2.1 ∈ tbG := tbG_of (List.mem_of_getElem? (i := 92) (by decide +kernel)) (by decide +kernel)
theorem wd_93 : Cond.fieldLink RX0 24 (TX0 3).1 (TX0 3).2.1 (TX0 3).2.2.1 ∈ tbG := tbG_of (List.mem_of_getElem? (i := 93) (by decide +kernel)) (by decide +kernel)
theorem wd_94 : Cond.fieldLink RX7 9 (TX0 3).1 (TX0 3).2.1 (TX0 3).2.2.1 ∈ tbG := tbG_of (List.mem_of_getElem? (i := 94) (by decide +kernel)) (by decide +kernel)
theorem wd_95 : Cond.fieldLink RX2 35 (TX0 3).1 (TX0 3).2.1 (TX0 3).2.2.1 ∈ tbG := tbG_of (List.mem_of_getElem? (i := 95) (by decide +kernel)) (by decide +kernel)
theorem wd_96 : Cond.fieldLink RX6 39 (TX0 3).1 (TX0 3).2.1 (TX0 3).2.2.1 ∈ tbG := tbG_of (List.mem_of_getElem? (i := 96) (by decide +kernel)) (by decide +kernel)
theorem wd_97 : Cond.fieldLink RX9 141 (TX0 3).1 (TX0 3).2.1 (TX0 3).2.2.1 ∈ tbG := tbG_of (List.mem_of_getElem? (i := 97) (by decide +kernel)) (by decide +kernel)
theorem wd_98 : Cond.fieldLink RX0 27 (TX0 4).1 (TX0 4).2.1 (TX0 4).2.2.1 ∈ tbG := tbG_of (List.mem_of_getElem? (i := 98) (by decide +kernel)) (by decide +kernel)
theorem wd_99 : Cond.fieldLink RX4 29 (TX0 4).1 (TX0 4).2.1 (TX0 4).2.2.1 ∈ tbG := tbG_of (List.mem_of_getElem? (i := 99) (by decide +kernel)) (by decide +kernel)
theorem wd_100 : Cond.fieldLink RX2 43 (TX0 4).1 (TX0 4).2.1 (TX0 4).2.2.1 ∈ tbG := tbG_of (List.mem_of_getElem? (i := 100) (by decide +kernel)) (by decide +kernel)
theorem wd_101 : Cond.fieldLink RX0 30 (TX0 5).1 (TX0 5).2.1 (TX0 5).2.2.1 ∈ tbG := tbG_of (List.mem_of_getElem? (i := 101) (by decide +kernel)) (by decide +kernel)
theorem wd_102 : Cond.fieldLink RX8 38 (TX0 5).1 (TX0 5).2.1 (TX0 5).2.2.1 ∈ tbG := tbG_of (List.mem_of_getElem? (i := 102) (by decide +kernel)) (by decide +kernel)
theorem wd_103 : Cond.fieldLink RX2 79 (TX0 5).1 (TX0 5).2.1 (TX0 5).2.2.1 ∈ tbG := tbG_of (List.mem_of_getElem? (i := 103) (by decide +kernel)) (by decide +kernel)
theorem wd_104 : Cond.fieldLink RX9 144 (TX0 5).1 (TX0 5).2.1 (TX0 5).2.2.1 ∈ tbG := tbG_of (List.mem_of_getElem? (i := 104) (by decide +kernel)) (by decide +kernel)
theorem wd_105 : Cond.fieldLink RX0 33 (TX0 6).1 (TX0 6).2.1 (TX0 6).2.2.1 ∈ tbG := tbG_of (List.mem_of_getElem? (i := 105) (by decide +kernel)) (by decide +kernel)
theorem wd_106 : Cond.fieldLink RX8 79 (TX0 6).1 (TX0 6).2.1 (TX0 6).2.2.1 ∈ tbG := tbG_of (List.mem_of_getElem? (i := 106) (by decide +kernel)) (by decide +kernel)
theorem wd_107 : Cond.fieldLink RX2 78 (TX0 6).1 (TX0 6).2.1 (TX0 6).2.2.1 ∈ tbG := tbG_of (List.mem_of_getElem? (i := 107) (by decide +kernel)) (by decide +kernel)
theorem wd_108 : Cond.fieldLink RX5 45 (TX0 6).1 (TX0 6).2.1 (TX0 6).2.2.1 ∈ tbG := tbG_of (List.mem_of_getElem? (i := 108) (by decide +kernel)) (by decide +kernel)
theorem wd_109 : Cond.fieldLink RX9 185 (TX0 6).1 (TX0 6).2.1 (TX0 6).2.2.1 ∈ tbG := tbG_of (List.mem_of_getElem? (i := 109) (by decide +kernel)) (by decide +kernel)
theorem wd_133 : Cond.fieldLink RX3 9 (TX3 0).1 (TX3 0).2.1 (TX3 0).2.2.1 ∈ tbG := tbG_of (List.mem_of_getElem? (i := 133) (by decide +kernel)) (by decide +kernel)
theorem wd_134 : Cond.fieldLink RX6 81 (TX3 0).1 (TX3 0).2.1 (TX3 0).2.2.1 ∈ tbG := tbG_of (List.mem_of_getElem? (i := 134) (by decide +kernel)) (by decide +kernel)
theorem wd_135 : Cond.fieldLink RX3 15 (TX3 1).1 (TX3 1).2.1 (TX3 1).2.2.1 ∈ tbG := tbG_of (List.mem_of_getElem? (i := 135) (by decide +kernel)) (by decide +kernel)
theorem wd_136 : Cond.fieldLink RX6 76 (TX3 1).1 (TX3 1).2.1 (TX3 1).2.2.1 ∈ tbG := tbG_of (List.mem_of_getElem? (i := 136) (by decide +kernel)) (by decide +kernel)
theorem wd_137 : Cond.fieldLink RX3 18 (TX3 2).1 (TX3 2).2.1 (TX3 2).2.2.1 ∈ tbG := tbG_of (List.mem_of_getElem? (i := 137) (by decide +kernel)) (by decide +kernel)
theorem wd_138 : Cond.fieldLink RX6 88 (TX3 2).1 (TX3 2).2.1 (TX3 2).2.2.1 ∈ tbG := tbG_of (List.mem_of_getElem? (i := 138) (by decide +kernel)) (by decide +kernel)
theorem wd_139 : Cond.fieldLink RX3 21 (TX3 3).1 (TX3 3).2.1 (TX3 3).2.2.1 ∈ tbG := tbG_of (List.mem_of_getElem? (i := 139) (by decide +kernel)) (by decide +kernel)
theorem wd_140 : Cond.fieldLink RX6 91 (TX3 3).1 (TX3 3).2.1 (TX3 3).2.2.1 ∈ tbG := tbG_of (List.mem_of_getElem? (i := 140) (by decide +kernel)) (by decide +kernel)
theorem wd_141 : Cond.fieldLink RX3 24 (TX3 4).1 (TX3 4).2.1 (TX3 4).2.2.1 ∈ tbG := tbG_of (List.mem_of_getElem? (i := 141) (by decide +kernel)) (by decide +kernel)
theorem wd_142 : Cond.fieldLink RX2 60 (TX3 4).1 (TX3 4).2.1 (TX3 4).2.2.1 ∈ tbG := tbG_of (List.mem_of_getElem? (i := 142) (by decide +kernel)) (by decide +kernel)
theorem wd_143 : Cond.fieldLink RX3 27 (TX3 5).1 (TX3 5).2.1 (TX3 5).2.2.1 ∈ tbG := tbG_of (List.mem_of_getElem? (i := 143) (by decide +kernel)) (by decide +kernel)
theorem wd_144 : Cond.fieldLink RX2 56 (TX3 5).1 (TX3 5).2.1 (TX3 5).2.2.1 ∈ tbG := tbG_of (List.mem_of_getElem? (i := 144) (by decide +kernel)) (by decide +kernel)
theorem wd_145 : Cond.fieldLink RX9 230 (TX3 5).1 (TX3 5).2.1 (TX3 5).2.2.1 ∈ tbG := tbG_of (List.mem_of_getElem? (i := 145) (by decide +kernel)) (by decide +kernel)
theorem wd_159 : Cond.fieldLink RX2 12 (TX2 0).1 (TX2 0).2.1 (TX2 0).2.2.1 ∈ tbG := tbG_of (List.mem_of_getElem? (i := 159) (by decide +kernel)) (by decide +kernel)
theorem wd_160 : Cond.fieldLink RX8 32 (TX2 0).1 (TX2 0).2.1 (TX2 0).2.2.1 ∈ tbG := tbG_of (List.mem_of_getElem? (i := 160) (by decide +kernel)) (by decide +kernel)
theorem wd_161 : Cond.fieldLink RX9 70 (TX2 0).1 (TX2 0).2.1 (TX2 0).2.2.1 ∈ tbG := tbG_of (List.mem_of_getElem? (i := 161) (by decide +kernel)) (by decide +kernel)
theorem wd_162 : Cond.fieldLink RX6 61 (TX2 0).1 (TX2 0).2.1 (TX2 0).2.2.1 ∈ tbG := tbG_of (List.mem_of_getElem? (i := 162) (by decide +kernel)) (by decide +kernel)
theorem wd_163 : Cond.fieldLink RX2 21 (TX2 1).1 (TX2 1).2.1 (TX2 1).2.2.1 ∈ tbG := tbG_of (List.mem_of_getElem? (i := 163) (by decide +kernel)) (by decide +kernel)
theorem wd_164 : Cond.fieldLink RX9 89 (TX2 1).1 (TX2 1).2.1 (TX2 1).2.2.1 ∈ tbG := tbG_of (List.mem_of_getElem? (i := 164) (by decide +kernel)) (by decide +kernel)
theorem wd_165 : Cond.fieldLink RX6 53 (TX2 1).1 (TX2 1).2.1 (TX2 1).2.2.1 ∈ tbG := tbG_of (List.mem_of_getElem? (i := 165) (by decide +kernel)) (by decide +kernel)
theorem wd_166 : Cond.fieldLink RX2 25 (TX2 2).1 (TX2 2).2.1 (TX2 2).2.2.1 ∈ tbG := tbG_of (List.mem_of_getElem? (i := 166) (by decide +kernel)) (by decide +kernel)
theorem wd_167 : Cond.fieldLink RX6 28 (TX2 2).1 (TX2 2).2.1 (TX2 2).2.2.1 ∈ tbG := tbG_of (List.mem_of_getElem? (i := 167) (by decide +kernel)) (by decide +kernel)
theorem wd_168 : Cond.fieldLink RX2 29 (TX2 3).1 (TX2 3).2.1 (TX2 3).2.2.1 ∈ tbG := tbG_of (List.mem_of_getElem? (i := 168) (by decide +kernel)) (by decide +kernel)
theorem wd_169 : Cond.fieldLink RX6 35 (TX2 3).1 (TX2 3).2.1 (TX2 3).2.2.1 ∈ tbG := tbG_of (List.mem_of_getElem? (i := 169) (by decide +kernel)) (by decide +kernel)
theorem wd_170 : Cond.fieldLink RX2 32 (TX2 4).1 (TX2 4).2.1 (TX2 4).2.2.1 ∈ tbG := tbG_of (List.mem_of_getElem? (i := 170) (by decide +kernel)) (by decide +kernel)
theorem wd_171 : Cond.fieldLink RX6 22 (TX2 5).1 (TX2 5).2.1 (TX2 5).2.2.1 ∈ tbG := tbG_of (List.mem_of_getElem? (i := 171) (by decide +kernel)) (by decide +kernel)
theorem wd_172 : Cond.fieldLink RX2 66 (TX2 5).1 (TX2 5).2.1 (TX2 5).2.2.1 ∈ tbG := tbG_of (List.mem_of_getElem? (i := 172) (by decide +kernel)) (by decide +kernel)
theorem wd_192 : Cond.fieldLink RX4 9 (TX4 0).1 (TX4 0).2.1 (TX4 0).2.2.1 ∈ tbG := tbG_of (List.mem_of_getElem? (i := 192) (by decide +kernel)) (by decide +kernel)
theorem wd_193 : Cond.fieldLink RX9 131 (TX4 0).1 (TX4 0).2.1 (TX4 0).2.2.1 ∈ tbG := tbG_of (List.mem_of_getElem? (i := 193) (by decide +kernel)) (by decide +kernel)
theorem wd_194 : Cond.fieldLink RX4 15 (TX4 1).1 (TX4 1).2.1 (TX4 1).2.2.1 ∈ tbG := tbG_of (List.mem_of_getElem? (i := 194) (by decide +kernel)) (by decide +kernel)
theorem wd_195 : Cond.fieldLink RX9 127 (TX4 1).1 (TX4 1).2.1 (TX4 1).2.2.1 ∈ tbG := tbG_of (List.mem_of_getElem? (i := 195) (by decide +kernel)) (by decide +kernel)
theorem wd_202 : Cond.constant RX9 28 (-2000000000) ∈ tbG := tbG_of (List.mem_of_getElem? (i := 202) (by decide +kernel)) (by decide +kernel)
theorem wd_212 : Cond.fieldLink RX6 9 (TX6 0).1 (TX6 0).2.1 (TX6 0).2.2.1 ∈ tbG := tbG_of (List.mem_of_getElem? (i := 212) (by decide +kernel)) (by decide +kernel)
theorem wd_213 : Cond.fieldLink RX9 186 (TX6 0).1 (TX6 0).2.1 (TX6 0).2.2.1 ∈ tbG := tbG_of (List.mem_of_getElem? (i := 213) (by decide +kernel)) (by decide +kernel)
theorem wd_214 : Cond.fieldLink RX6 15 (TX6 1).1 (TX6 1).2.1 (TX6 1).2.2.1 ∈ tbG := tbG_of (List.mem_of_getElem? (i := 214) (by decide +kernel)) (by decide +kernel)
theorem wd_215 : Cond.fieldLink RX8 63 (TX6 1).1 (TX6 1).2.1 (TX6 1).2.2.1 ∈ tbG := tbG_of (List.mem_of_getElem? (i := 215) (by decide +kernel)) (by decide +kernel)
theorem wd_216 : Cond.fieldLink RX6 19 (TX6 2).1 (TX6 2).2.1 (TX6 2).2.2.1 ∈ tbG := tbG_of (List.mem_of_getElem? (i := 216) (by decide +kernel)) (by decide +kernel)
theorem wd_217 : Cond.fieldLink RX9 175 (TX6 2).1 (TX6 2).2.1 (TX6 2).2.2.1 ∈ tbG := tbG_of (List.mem_of_getElem? (i := 217) (by decide +kernel)) (by decide +kernel)
theorem wd_231 : Cond.fieldLink RX1 9 (TX1 0).1 (TX1 0).2.1 (TX1 0).2.2.1 ∈ tbG := tbG_of (List.mem_of_getElem? (i := 231) (by decide +kernel)) (by decide +kernel)
theorem wd_232 : Cond.fieldLink RX9 196 (TX1 0).1 (TX1 0).2.1 (TX1 0).2.2.1 ∈ tbG := tbG_of (List.mem_of_getElem? (i := 232) (by decide +kernel)) (by decide +kernel)
theorem wd_233 : Cond.fieldLink RX1 15 (TX1 1).1 (TX1 1).2.1 (TX1 1).2.2.1 ∈ tbG := tbG_of (List.mem_of_getElem? (i := 233) (by decide +kernel)) (by decide +kernel)
theorem wd_234 : Cond.fieldLink RX9 195 (TX1 1).1 (TX1 1).2.1 (TX1 1).2.2.1 ∈ tbG := tbG_of (List.mem_of_getElem? (i := 234) (by decide +kernel)) (by decide +kernel)
theorem wd_247 : Cond.fieldLink RX5 9 (TX5 0).1 (TX5 0).2.1 (TX5 0).2.2.1 ∈ tbG := tbG_of (List.mem_of_getElem? (i := 247) (by decide +kernel)) (by decide +kernel)
theorem wd_248 : Cond.fieldLink RX9 212 (TX5 0).1 (TX5 0).2.1 (TX5 0).2.2.1 ∈ tbG := tbG_of (List.mem_of_getElem? (i := 248) (by decide +kernel)) (by decide +kernel)
theorem wd_249 : Cond.fieldLink RX5 15 (TX5 1).1 (TX5 1).2.1 (TX5 1).2.2.1 ∈ tbG := tbG_of (List.mem_of_getElem? (i := 249) (by decide +kernel)) (by decide +kernel)
theorem wd_250 : Cond.fieldLink RX9 215 (TX5 1).1 (TX5 1).2.1 (TX5 1).2.2.1 ∈ tbG := tbG_of (List.mem_of_getElem? (i := 250) (by decide +kernel)) (by decide +kernel)
theorem wd_251 : Cond.fieldLink RX5 18 (TX5 2).1 (TX5 2).2.1 (TX5 2).2.2.1 ∈ tbG := tbG_of (List.mem_of_getElem? (i := 251) (by decide +kernel)) (by decide +kernel)
theorem wd_252 : Cond.fieldLink RX9 203 (TX5 2).1 (TX5 2).2.1 (TX5 2).2.2.1 ∈ tbG := tbG_of (List.mem_of_getElem? (i := 252) (by decide +kernel)) (by decide +kernel)
theorem wd_253 : Cond.fieldLink RX5 24 (TX5 3).1 (TX5 3).2.1 (TX5 3).2.2.1 ∈ tbG := tbG_of (List.mem_of_getElem? (i := 253) (by decide +kernel)) (by decide +kernel)
theorem wd_254 : Cond.fieldLink RX9 209 (TX5 3).1 (TX5 3).2.1 (TX5 3).2.2.1 ∈ tbG := tbG_of (List.mem_of_getElem? (i := 254) (by decide +kernel)) (by decide +kernel)
theorem wd_255 : Cond.fieldLink RX5 27 (TX5 4).1 (TX5 4).2.1 (TX5 4).2.2.1 ∈ tbG := tbG_of (List.mem_of_getElem? (i := 255) (by decide +kernel)) (by decide +kernel)
theorem wd_256 : Cond.fieldLink RX9 206 (TX5 4).1 (TX5 4).2.1 (TX5 4).2.2.1 ∈ tbG := tbG_of (List.mem_of_getElem? (i := 256) (by decide +kernel)) (by decide +kernel)
theorem wd_257 : Cond.fieldLink RX5 30 (TX5 5).1 (TX5 5).2.1 (TX5 5).2.2.1 ∈ tbG := tbG_of (List.mem_of_getElem? (i := 257) (by decide +kernel)) (by decide +kernel)
theorem wd_258 : Cond.fieldLink RX9 235 (TX5 5).1 (TX5 5).2.1 (TX5 5).2.2.1 ∈ tbG := tbG_of (List.mem_of_getElem? (i := 258) (by decide +kernel)) (by decide +kernel)
theorem wd_280 : Cond.constant RX8 25 (-2000000000) ∈ tbG := tbG_of (List.mem_of_getElem? (i := 280) (by decide +kernel)) (by decide +kernel)
theorem wd_282 : Cond.fieldLink RX8 9 (TX8 0).1 (TX8 0).2.1 (TX8 0).2.2.1 ∈ tbG := tbG_of (List.mem_of_getElem? (i := 282) (by decide +kernel)) (by decide +kernel)
theorem wd_283 : Cond.fieldLink RX9 224 (TX8 0).1 (TX8 0).2.1 (TX8 0).2.2.1 ∈ tbG := tbG_of (List.mem_of_getElem? (i := 283) (by decide +kernel)) (by decide +kernel)
theorem wd_284 : Cond.fieldLink RX8 15 (TX8 1).1 (TX8 1).2.1 (TX8 1).2.2.1 ∈ tbG := tbG_of (List.mem_of_getElem? (i := 284) (by decide +kernel)) (by decide +kernel)
theorem wd_285 : Cond.fieldLink RX8 21 (TX8 2).1 (TX8 2).2.1 (TX8 2).2.2.1 ∈ tbG := tbG_of (List.mem_of_getElem? (i := 285) (by decide +kernel)) (by decide +kernel)
theorem wd_286 : Cond.fieldLink RX8 92 (TX8 3).1 (TX8 3).2.1 (TX8 3).2.2.1 ∈ tbG := tbG_of (List.mem_of_getElem? (i := 286) (by decide +kernel)) (by decide +kernel)
theorem wd_287 : Cond.fieldLink RX8 59 (TX8 4).1 (TX8 4).2.1 (TX8 4).2.2.1 ∈ tbG := tbG_of (List.mem_of_getElem? (i := 287) (by decide +kernel)) (by decide +kernel)
theorem wd_288 : Cond.fieldLink RX9 227 (TX8 4).1 (TX8 4).2.1 (TX8 4).2.2.1 ∈ tbG := tbG_of (List.mem_of_getElem? (i := 288) (by decide +kernel)) (by decide +kernel)
theorem wd_306 : Cond.fieldLink RX7 36 (TX7 0).1 (TX7 0).2.1 (TX7 0).2.2.1 ∈ tbG := tbG_of (List.mem_of_getElem? (i := 306) (by decide +kernel)) (by decide +kernel)
theorem wd_307 : Cond.fieldLink RX9 248 (TX7 0).1 (TX7 0).2.1 (TX7 0).2.2.1 ∈ tbG := tbG_of (List.mem_of_getElem? (i := 307) (by decide +kernel)) (by decide +kernel)
theorem wd_311 : Cond.fieldLink RX9 10 (TX9 0).1 (TX9 0).2.1 (TX9 0).2.2.1 ∈ tbG := tbG_of (List.mem_of_getElem? (i := 311) (by decide +kernel)) (by decide +kernel)
theorem wd_312 : Cond.fieldLink RX9 19 (TX9 1).1 (TX9 1).2.1 (TX9 1).2.2.1 ∈ tbG := tbG_of (List.mem_of_getElem? (i := 312) (by decide +kernel)) (by decide +kernel)
theorem wd_313 : Cond.fieldLink RX9 25 (TX9 2).1 (TX9 2).2.1 (TX9 2).2.2.1 ∈ tbG := tbG_of (List.mem_of_getElem? (i := 313) (by decide +kernel)) (by decide +kernel)
theorem wd_314 : Cond.fieldLink RX9 38 (TX9 3).1 (TX9 3).2.1 (TX9 3).2.2.1 ∈ tbG := tbG_of (List.mem_of_getElem? (i := 314) (by decide +kernel)) (by decide +kernel)
theorem wd_315 : Cond.fieldLink RX9 45 (TX9 4).1 (TX9 4).2.1 (TX9 4).2.2.1 ∈ tbG := tbG_of (List.mem_of_getElem? (i := 315) (by decide +kernel)) (by decide +kernel)
theorem wd_316 : Cond.fieldLink RX9 52 (TX9 5).1 (TX9 5).2.1 (TX9 5).2.2.1 ∈ tbG := tbG_of (List.mem_of_getElem? (i := 316) (by decide +kernel)) (by decide +kernel)
theorem wd_317 : Cond.fieldLink RX9 59 (TX9 6).1 (TX9 6).2.1 (TX9 6).2.2.1 ∈ tbG := tbG_of (List.mem_of_getElem? (i := 317) (by decide +kernel)) (by decide +kernel)
theorem wd_318 : Cond.fieldLink RX9 66 (TX9 7).1 (TX9 7).2.1 (TX9 7).2.2.1 ∈ tbG := tbG_of (List.mem_of_getElem? (i := 318) (by decide +kernel)) (by decide +kernel)
theorem wd_359 : Cond.constant RJ6 265 (1431655765) ∈ tbG := tbG_of (List.mem_of_getElem? (i := 359) (by decide +kernel)) (by decide +kernel)
theorem wd_360 : Cond.constant RJ6 266 (858993459) ∈ tbG := tbG_of (List.mem_of_getElem? (i := 360) (by decide +kernel)) (by decide +kernel)
theorem wd_361 : Cond.constant RJ6 267 (252645135) ∈ tbG := tbG_of (List.mem_of_getElem? (i := 361) (by decide +kernel)) (by decide +kernel)
theorem wd_382 : Cond.constant RX9 87 (-1000000) ∈ tbG := tbG_of (List.mem_of_getElem? (i := 382) (by decide +kernel)) (by decide +kernel)
theorem wd_383 : Cond.constant RX9 88 (1000000) ∈ tbG := tbG_of (List.mem_of_getElem? (i := 383) (by decide +kernel)) (by decide +kernel)
theorem wd_494 : Cond.constant RX6 38 (-2000000000) ∈ tbG := tbG_of (List.mem_of_getElem? (i := 494) (by decide +kernel)) (by decide +kernel)
theorem wd_505 : Cond.constantLong RX6 102 (1000000) ∈ tbG := tbG_of (List.mem_of_getElem? (i := 505) (by decide +kernel)) (by decide +kernel)
theorem wd_506 : Cond.constant RX6 104 (1000000) ∈ tbG := tbG_of (List.mem_of_getElem? (i := 506) (by decide +kernel)) (by decide +kernel)
theorem wd_507 : Cond.constantLong RX6 105 (-1000000) ∈ tbG := tbG_of (List.mem_of_getElem? (i := 507) (by decide +kernel)) (by decide +kernel)
theorem wd_508 : Cond.constant RX6 107 (-1000000) ∈ tbG := tbG_of (List.mem_of_getElem? (i := 508) (by decide +kernel)) (by decide +kernel)
theorem wd_568 : Cond.constant RX5 38 (-2000000000) ∈ tbG := tbG_of (List.mem_of_getElem? (i := 568) (by decide +kernel)) (by decide +kernel)
theorem wd_691 : Cond.constant RX10 90 (-2000000000) ∈ tbG := tbG_of (List.mem_of_getElem? (i := 691) (by decide +kernel)) (by decide +kernel)
theorem wd_692 : Cond.fieldLink RX10 95 (TX10 0).1 (TX10 0).2.1 (TX10 0).2.2.1 ∈ tbG := tbG_of (List.mem_of_getElem? (i := 692) (by decide +kernel)) (by decide +kernel)
theorem wd_693 : Cond.fieldLink RX10 7 (TX10 1).1 (TX10 1).2.1 (TX10 1).2.2.1 ∈ tbG := tbG_of (List.mem_of_getElem? (i := 693) (by decide +kernel)) (by decide +kernel)
theorem wd_694 : Cond.fieldLink RX10 13 (TX10 2).1 (TX10 2).2.1 (TX10 2).2.2.1 ∈ tbG := tbG_of (List.mem_of_getElem? (i := 694) (by decide +kernel)) (by decide +kernel)
theorem wd_695 : Cond.fieldLink RX10 16 (TX10 3).1 (TX10 3).2.1 (TX10 3).2.2.1 ∈ tbG := tbG_of (List.mem_of_getElem? (i := 695) (by decide +kernel)) (by decide +kernel)
theorem wd_696 : Cond.fieldLink RX10 19 (TX10 4).1 (TX10 4).2.1 (TX10 4).2.2.1 ∈ tbG := tbG_of (List.mem_of_getElem? (i := 696) (by decide +kernel)) (by decide +kernel)
theorem wd_697 : Cond.fieldLink RX10 103 (TX10 5).1 (TX10 5).2.1 (TX10 5).2.2.1 ∈ tbG := tbG_of (List.mem_of_getElem? (i := 697) (by decide +kernel)) (by decide +kernel)
theorem wd_698 : Cond.fieldLink RX10 22 (TX10 6).1 (TX10 6).2.1 (TX10 6).2.2.1 ∈ tbG := tbG_of (List.mem_of_getElem? (i := 698) (by decide +kernel)) (by decide +kernel)
theorem wd_699 : Cond.fieldLink RX10 25 (TX10 7).1 (TX10 7).2.1 (TX10 7).2.2.1 ∈ tbG := tbG_of (List.mem_of_getElem? (i := 699) (by decide +kernel)) (by decide +kernel)
theorem wd_700 : Cond.fieldLink RX10 28 (TX10 8).1 (TX10 8).2.1 (TX10 8).2.2.1 ∈ tbG := tbG_of (List.mem_of_getElem? (i := 700) (by decide +kernel)) (by decide +kernel)
theorem wd_701 : Cond.fieldLink RX10 31 (TX10 9).1 (TX10 9).2.1 (TX10 9).2.2.1 ∈ tbG := tbG_of (List.mem_of_getElem? (i := 701) (by decide +kernel)) (by decide +kernel)
theorem wd_702 : Cond.fieldLink RX10 91 (TX10 10).1 (TX10 10).2.1 (TX10 10).2.2.1 ∈ tbG := tbG_of (List.mem_of_getElem? (i := 702) (by decide +kernel)) (by decide +kernel)
theorem wd_703 : Cond.fieldLink RX10 34 (TX10 11).1 (TX10 11).2.1 (TX10 11).2.2.1 ∈ tbG := tbG_of (List.mem_of_getElem? (i := 703) (by decide +kernel)) (by decide +kernel)
theorem wd_704 : Cond.fieldLink RX10 37 (TX10 12).1 (TX10 12).2.1 (TX10 12).2.2.1 ∈ tbG := tbG_of (List.mem_of_getElem? (i := 704) (by decide +kernel)) (by decide +kernel)
theorem wd_705 : Cond.fieldLink RX10 40 (TX10 13).1 (TX10 13).2.1 (TX10 13).2.2.1 ∈ tbG := tbG_of (List.mem_of_getElem? (i := 705) (by decide +kernel)) (by decide +kernel)
theorem wd_706 : Cond.fieldLink RX10 44 (TX10 14).1 (TX10 14).2.1 (TX10 14).2.2.1 ∈ tbG := tbG_of (List.mem_of_getElem? (i := 706) (by decide +kernel)) (by decide +kernel)
theorem wd_707 : Cond.fieldLink RX10 139 (TX10 15).1 (TX10 15).2.1 (TX10 15).2.2.1 ∈ tbG := tbG_of (List.mem_of_getElem? (i := 707) (by decide +kernel)) (by decide +kernel)
theorem wd_708 : Cond.fieldLink RX10 47 (TX10 16).1 (TX10 16).2.1 (TX10 16).2.2.1 ∈ tbG := tbG_of (List.mem_of_getElem? (i := 708) (by decide +kernel)) (by decide +kernel)
theorem wd_709 : Cond.fieldLink RX10 50 (TX10 17).1 (TX10 17).2.1 (TX10 17).2.2.1 ∈ tbG := tbG_of (List.mem_of_getElem? (i := 709) (by decide +kernel)) (by decide +kernel)
theorem wd_710 : Cond.fieldLink RX10 53 (TX10 18).1 (TX10 18).2.1 (TX10 18).2.2.1 ∈ tbG := tbG_of (List.mem_of_getElem? (i := 710) (by decide +kernel)) (by decide +kernel)
theorem wd_711 : Cond.fieldLink RX10 57 (TX10 19).1 (TX10 19).2.1 (TX10 19).2.2.1 ∈ tbG := tbG_of (List.mem_of_getElem? (i := 711) (by decide +kernel)) (by decide +kernel)
theorem wd_712 : Cond.fieldLink RX10 60 (TX10 20).1 (TX10 20).2.1 (TX10 20).2.2.1 ∈ tbG := tbG_of (List.mem_of_getElem? (i := 712) (by decide +kernel)) (by decide +kernel)
theorem wd_713 : Cond.fieldLink RX10 63 (TX10 21).1 (TX10 21).2.1 (TX10 21).2.2.1 ∈ tbG := tbG_of (List.mem_of_getElem? (i := 713) (by decide +kernel)) (by decide +kernel)
theorem wd_714 : Cond.fieldLink RX10 66 (TX10 22).1 (TX10 22).2.1 (TX10 22).2.2.1 ∈ tbG := tbG_of (List.mem_of_getElem? (i := 714) (by decide +kernel)) (by decide +kernel)
theorem wd_715 : Cond.fieldLink RX10 200 (TX10 23).1 (TX10 23).2.1 (TX10 23).2.2.1 ∈ tbG := tbG_of (List.mem_of_getElem? (i := 715) (by decide +kernel)) (by decide +kernel)
theorem wd_716 : Cond.fieldLink RX10 69 (TX10 24).1 (TX10 24).2.1 (TX10 24).2.2.1 ∈ tbG := tbG_of (List.mem_of_getElem? (i := 716) (by decide +kernel)) (by decide +kernel)
theorem wd_717 : Cond.fieldLink RX10 181 (TX10 25).1 (TX10 25).2.1 (TX10 25).2.2.1 ∈ tbG := tbG_of (List.mem_of_getElem? (i := 717) (by decide +kernel)) (by decide +kernel)
theorem wd_718 : Cond.fieldLink RX10 72 (TX10 26).1 (TX10 26).2.1 (TX10 26).2.2.1 ∈ tbG := tbG_of (List.mem_of_getElem? (i := 718) (by decide +kernel)) (by decide +kernel)
theorem wd_719 : Cond.fieldLink RX10 75 (TX10 27).1 (TX10 27).2.1 (TX10 27).2.2.1 ∈ tbG := tbG_of (List.mem_of_getElem? (i := 719) (by decide +kernel)) (by decide +kernel)
theorem wd_720 : Cond.fieldLink RX10 78 (TX10 28).1 (TX10 28).2.1 (TX10 28).2.2.1 ∈ tbG := tbG_of (List.mem_of_getElem? (i := 720) (by decide +kernel)) (by decide +kernel)
theorem wd_721 : Cond.fieldLink RX10 81 (TX10 29).1 (TX10 29).2.1 (TX10 29).2.2.1 ∈ tbG := tbG_of (List.mem_of_getElem? (i := 721) (by decide +kernel)) (by decide +kernel)
theorem wd_722 : Cond.fieldLink RX10 84 (TX10 30).1 (TX10 30).2.1 (TX10 30).2.2.1 ∈ tbG := tbG_of (List.mem_of_getElem? (i := 722) (by decide +kernel)) (by decide +kernel)
theorem wd_723 : Cond.fieldLink RX10 213 (TX10 31).1 (TX10 31).2.1 (TX10 31).2.2.1 ∈ tbG := tbG_of (List.mem_of_getElem? (i := 723) (by decide +kernel)) (by decide +kernel)
theorem wd_724 : Cond.fieldLink RX10 87 (TX10 32).1 (TX10 32).2.1 (TX10 32).2.2.1 ∈ tbG := tbG_of (List.mem_of_getElem? (i := 724) (by decide +kernel)) (by decide +kernel)
theorem wd_725 : Cond.fieldLink RX10 226 (TX10 33).1 (TX10 33).2.1 (TX10 33).2.2.1 ∈ tbG := tbG_of (List.mem_of_getElem? (i := 725) (by decide +kernel)) (by decide +kernel)
theorem wd_821 : Cond.constant RX10 120 (-1000000) ∈ tbG := tbG_of (List.mem_of_getElem? (i := 821) (by decide +kernel)) (by decide +kernel)
theorem wd_822 : Cond.constant RX10 121 (1000000) ∈ tbG := tbG_of (List.mem_of_getElem? (i := 822) (by decide +kernel)) (by decide +kernel)
theorem wd_915 : Cond.constantLong RX10 155 (1000000) ∈ tbG := tbG_of (List.mem_of_getElem? (i := 915) (by decide +kernel)) (by decide +kernel)
theorem wd_916 : Cond.constantLong RX10 157 (-1000000) ∈ tbG := tbG_of (List.mem_of_getElem? (i := 916) (by decide +kernel)) (by decide +kernel)
theorem wd_921 : Cond.constantLong RX10 179 (-1) ∈ tbG := tbG_of (List.mem_of_getElem? (i := 921) (by decide +kernel)) (by decide +kernel)
theorem wd_982 : Cond.constantLong RX10 209 (20000) ∈ tbG := tbG_of (List.mem_of_getElem? (i := 982) (by decide +kernel)) (by decide +kernel)
theorem wd_983 : Cond.constantLong RX10 211 (2) ∈ tbG := tbG_of (List.mem_of_getElem? (i := 983) (by decide +kernel)) (by decide +kernel)
theorem mc_J6_bitCount_0f7a4 : Cond.code yJ6_bitCount_0f7a4 cJ6_bitCount_0f7a4 1 (some .int) ∈ tbG := tbG_of (List.mem_of_getElem? (i := 358) (by decide +kernel)) (by decide +kernel)
theorem md_J6_bitCount_0f7a4 : Cond.code yJ6_bitCount_0f7a4 cJ6_bitCount_0f7a4 1 (some .int) ∈ tbG ∧ Cond.static yJ6_bitCount_0f7a4 ∈ tbG ∧ Cond.initialized (yJ6_bitCount_0f7a4).cls ∈ tbG ∧ plainName (yJ6_bitCount_0f7a4).cls = true ∧ (yJ6_bitCount_0f7a4).cls ≠ "java/lang/invoke/MethodHandle" ∧ (yJ6_bitCount_0f7a4).cls ≠ "java/lang/invoke/VarHandle" ∧ (parseMethodDescriptor (yJ6_bitCount_0f7a4).desc).map (fun d => d.parameters.length) = some 1 := ⟨mc_J6_bitCount_0f7a4, (tbG_of (List.mem_of_getElem? (i := 357) (by decide +kernel)) (by decide +kernel) : Cond.static yJ6_bitCount_0f7a4 ∈ tbG), (tbG_of (List.mem_of_getElem? (i := 58) (by decide +kernel)) (by decide +kernel) : Cond.initialized (yJ6_bitCount_0f7a4).cls ∈ tbG), by decide +kernel, by decide +kernel, by decide +kernel, by decide +kernel⟩
theorem mc_J7_fill_53178 : Cond.code yJ7_fill_53178 cJ7_fill_53178 4 none ∈ tbG := tbG_of (List.mem_of_getElem? (i := 205) (by decide +kernel)) (by decide +kernel)
theorem md_J7_fill_53178 : Cond.code yJ7_fill_53178 cJ7_fill_53178 4 none ∈ tbG ∧ Cond.static yJ7_fill_53178 ∈ tbG ∧ Cond.initialized (yJ7_fill_53178).cls ∈ tbG ∧ plainName (yJ7_fill_53178).cls = true ∧ (yJ7_fill_53178).cls ≠ "java/lang/invoke/MethodHandle" ∧ (yJ7_fill_53178).cls ≠ "java/lang/invoke/VarHandle" ∧ (parseMethodDescriptor (yJ7_fill_53178).desc).map (fun d => d.parameters.length) = some 2 := ⟨mc_J7_fill_53178, (tbG_of (List.mem_of_getElem? (i := 204) (by decide +kernel)) (by decide +kernel) : Cond.static yJ7_fill_53178 ∈ tbG), (tbG_of (List.mem_of_getElem? (i := 51) (by decide +kernel)) (by decide +kernel) : Cond.initialized (yJ7_fill_53178).cls ∈ tbG), by decide +kernel, by decide +kernel, by decide +kernel, by decide +kernel⟩
theorem mc_X0_add : Cond.code yX0_add cX0_add 4 (some .int) ∈ tbG := tbG_of (List.mem_of_getElem? (i := 343) (by decide +kernel)) (by decide +kernel)
theorem md_X0_add : Cond.code yX0_add cX0_add 4 (some .int) ∈ tbG ∧ Cond.instanceMethod yX0_add ∈ tbG ∧ Cond.selects (yX0_add).cls yX0_add yX0_add ∈ tbG ∧ Cond.initialized (yX0_add).cls ∈ tbG ∧ plainName (yX0_add).cls = true ∧ (yX0_add).cls ≠ "java/lang/invoke/MethodHandle" ∧ (yX0_add).cls ≠ "java/lang/invoke/VarHandle" ∧ (parseMethodDescriptor (yX0_add).desc).map (fun d => d.parameters.length) = some 3 := ⟨mc_X0_add, (tbG_of (List.mem_of_getElem? (i := 341) (by decide +kernel)) (by decide +kernel) : Cond.instanceMethod yX0_add ∈ tbG), (tbG_of (List.mem_of_getElem? (i := 342) (by decide +kernel)) (by decide +kernel) : Cond.selects (yX0_add).cls yX0_add yX0_add ∈ tbG), (tbG_of (List.mem_of_getElem? (i := 48) (by decide +kernel)) (by decide +kernel) : Cond.initialized (yX0_add).cls ∈ tbG), by decide +kernel, by decide +kernel, by decide +kernel, by decide +kernel⟩
theorem mc_X0_askedBits : Cond.code yX0_askedBits cX0_askedBits 3 (some .int) ∈ tbG := tbG_of (List.mem_of_getElem? (i := 473) (by decide +kernel)) (by decide +kernel)
theorem md_X0_askedBits : Cond.code yX0_askedBits cX0_askedBits 3 (some .int) ∈ tbG ∧ Cond.instanceMethod yX0_askedBits ∈ tbG ∧ Cond.selects (yX0_askedBits).cls yX0_askedBits yX0_askedBits ∈ tbG ∧ Cond.initialized (yX0_askedBits).cls ∈ tbG ∧ plainName (yX0_askedBits).cls = true ∧ (yX0_askedBits).cls ≠ "java/lang/invoke/MethodHandle" ∧ (yX0_askedBits).cls ≠ "java/lang/invoke/VarHandle" ∧ (parseMethodDescriptor (yX0_askedBits).desc).map (fun d => d.parameters.length) = some 0 := ⟨mc_X0_askedBits, (tbG_of (List.mem_of_getElem? (i := 471) (by decide +kernel)) (by decide +kernel) : Cond.instanceMethod yX0_askedBits ∈ tbG), (tbG_of (List.mem_of_getElem? (i := 472) (by decide +kernel)) (by decide +kernel) : Cond.selects (yX0_askedBits).cls yX0_askedBits yX0_askedBits ∈ tbG), (tbG_of (List.mem_of_getElem? (i := 48) (by decide +kernel)) (by decide +kernel) : Cond.initialized (yX0_askedBits).cls ∈ tbG), by decide +kernel, by decide +kernel, by decide +kernel, by decide +kernel⟩
theorem mc_X0_hangersOn : Cond.code yX0_hangersOn cX0_hangersOn 4 (some .int) ∈ tbG := tbG_of (List.mem_of_getElem? (i := 437) (by decide +kernel)) (by decide +kernel)
theorem md_X0_hangersOn : Cond.code yX0_hangersOn cX0_hangersOn 4 (some .int) ∈ tbG ∧ Cond.instanceMethod yX0_hangersOn ∈ tbG ∧ Cond.selects (yX0_hangersOn).cls yX0_hangersOn yX0_hangersOn ∈ tbG ∧ Cond.initialized (yX0_hangersOn).cls ∈ tbG ∧ plainName (yX0_hangersOn).cls = true ∧ (yX0_hangersOn).cls ≠ "java/lang/invoke/MethodHandle" ∧ (yX0_hangersOn).cls ≠ "java/lang/invoke/VarHandle" ∧ (parseMethodDescriptor (yX0_hangersOn).desc).map (fun d => d.parameters.length) = some 1 := ⟨mc_X0_hangersOn, (tbG_of (List.mem_of_getElem? (i := 435) (by decide +kernel)) (by decide +kernel) : Cond.instanceMethod yX0_hangersOn ∈ tbG), (tbG_of (List.mem_of_getElem? (i := 436) (by decide +kernel)) (by decide +kernel) : Cond.selects (yX0_hangersOn).cls yX0_hangersOn yX0_hangersOn ∈ tbG), (tbG_of (List.mem_of_getElem? (i := 48) (by decide +kernel)) (by decide +kernel) : Cond.initialized (yX0_hangersOn).cls ∈ tbG), by decide +kernel, by decide +kernel, by decide +kernel, by decide +kernel⟩
theorem mc_X0_has : Cond.code yX0_has cX0_has 2 (some .boolean) ∈ tbG := tbG_of (List.mem_of_getElem? (i := 377) (by decide +kernel)) (by decide +kernel)
theorem md_X0_has : Cond.code yX0_has cX0_has 2 (some .boolean) ∈ tbG ∧ Cond.instanceMethod yX0_has ∈ tbG ∧ Cond.selects (yX0_has).cls yX0_has yX0_has ∈ tbG ∧ Cond.initialized (yX0_has).cls ∈ tbG ∧ plainName (yX0_has).cls = true ∧ (yX0_has).cls ≠ "java/lang/invoke/MethodHandle" ∧ (yX0_has).cls ≠ "java/lang/invoke/VarHandle" ∧ (parseMethodDescriptor (yX0_has).desc).map (fun d => d.parameters.length) = some 1 := ⟨mc_X0_has, (tbG_of (List.mem_of_getElem? (i := 375) (by decide +kernel)) (by decide +kernel) : Cond.instanceMethod yX0_has ∈ tbG), (tbG_of (List.mem_of_getElem? (i := 376) (by decide +kernel)) (by decide +kernel) : Cond.selects (yX0_has).cls yX0_has yX0_has ∈ tbG), (tbG_of (List.mem_of_getElem? (i := 48) (by decide +kernel)) (by decide +kernel) : Cond.initialized (yX0_has).cls ∈ tbG), by decide +kernel, by decide +kernel, by decide +kernel, by decide +kernel⟩
theorem mc_X0_inSpan : Cond.code yX0_inSpan cX0_inSpan 3 (some .boolean) ∈ tbG := tbG_of (List.mem_of_getElem? (i := 461) (by decide +kernel)) (by decide +kernel)
theorem md_X0_inSpan : Cond.code yX0_inSpan cX0_inSpan 3 (some .boolean) ∈ tbG ∧ Cond.instanceMethod yX0_inSpan ∈ tbG ∧ Cond.selects (yX0_inSpan).cls yX0_inSpan yX0_inSpan ∈ tbG ∧ Cond.initialized (yX0_inSpan).cls ∈ tbG ∧ plainName (yX0_inSpan).cls = true ∧ (yX0_inSpan).cls ≠ "java/lang/invoke/MethodHandle" ∧ (yX0_inSpan).cls ≠ "java/lang/invoke/VarHandle" ∧ (parseMethodDescriptor (yX0_inSpan).desc).map (fun d => d.parameters.length) = some 2 := ⟨mc_X0_inSpan, (tbG_of (List.mem_of_getElem? (i := 459) (by decide +kernel)) (by decide +kernel) : Cond.instanceMethod yX0_inSpan ∈ tbG), (tbG_of (List.mem_of_getElem? (i := 460) (by decide +kernel)) (by decide +kernel) : Cond.selects (yX0_inSpan).cls yX0_inSpan yX0_inSpan ∈ tbG), (tbG_of (List.mem_of_getElem? (i := 48) (by decide +kernel)) (by decide +kernel) : Cond.initialized (yX0_inSpan).cls ∈ tbG), by decide +kernel, by decide +kernel, by decide +kernel, by decide +kernel⟩
theorem mc_X0_leastHanging : Cond.code yX0_leastHanging cX0_leastHanging 4 (some .int) ∈ tbG := tbG_of (List.mem_of_getElem? (i := 414) (by decide +kernel)) (by decide +kernel)
theorem md_X0_leastHanging : Cond.code yX0_leastHanging cX0_leastHanging 4 (some .int) ∈ tbG ∧ Cond.instanceMethod yX0_leastHanging ∈ tbG ∧ Cond.selects (yX0_leastHanging).cls yX0_leastHanging yX0_leastHanging ∈ tbG ∧ Cond.initialized (yX0_leastHanging).cls ∈ tbG ∧ plainName (yX0_leastHanging).cls = true ∧ (yX0_leastHanging).cls ≠ "java/lang/invoke/MethodHandle" ∧ (yX0_leastHanging).cls ≠ "java/lang/invoke/VarHandle" ∧ (parseMethodDescriptor (yX0_leastHanging).desc).map (fun d => d.parameters.length) = some 2 := ⟨mc_X0_leastHanging, (tbG_of (List.mem_of_getElem? (i := 412) (by decide +kernel)) (by decide +kernel) : Cond.instanceMethod yX0_leastHanging ∈ tbG), (tbG_of (List.mem_of_getElem? (i := 413) (by decide +kernel)) (by decide +kernel) : Cond.selects (yX0_leastHanging).cls yX0_leastHanging yX0_leastHanging ∈ tbG), (tbG_of (List.mem_of_getElem? (i := 48) (by decide +kernel)) (by decide +kernel) : Cond.initialized (yX0_leastHanging).cls ∈ tbG), by decide +kernel, by decide +kernel, by decide +kernel, by decide +kernel⟩
theorem mc_X0_spread : Cond.code yX0_spread cX0_spread 4 (some .int) ∈ tbG := tbG_of (List.mem_of_getElem? (i := 352) (by decide +kernel)) (by decide +kernel)
theorem md_X0_spread : Cond.code yX0_spread cX0_spread 4 (some .int) ∈ tbG ∧ Cond.instanceMethod yX0_spread ∈ tbG ∧ Cond.selects (yX0_spread).cls yX0_spread yX0_spread ∈ tbG ∧ Cond.initialized (yX0_spread).cls ∈ tbG ∧ plainName (yX0_spread).cls = true ∧ (yX0_spread).cls ≠ "java/lang/invoke/MethodHandle" ∧ (yX0_spread).cls ≠ "java/lang/invoke/VarHandle" ∧ (parseMethodDescriptor (yX0_spread).desc).map (fun d => d.parameters.length) = some 1 := ⟨mc_X0_spread, (tbG_of (List.mem_of_getElem? (i := 350) (by decide +kernel)) (by decide +kernel) : Cond.instanceMethod yX0_spread ∈ tbG), (tbG_of (List.mem_of_getElem? (i := 351) (by decide +kernel)) (by decide +kernel) : Cond.selects (yX0_spread).cls yX0_spread yX0_spread ∈ tbG), (tbG_of (List.mem_of_getElem? (i := 48) (by decide +kernel)) (by decide +kernel) : Cond.initialized (yX0_spread).cls ∈ tbG), by decide +kernel, by decide +kernel, by decide +kernel, by decide +kernel⟩
theorem mc_X0_spreadHangs : Cond.code yX0_spreadHangs cX0_spreadHangs 3 none ∈ tbG := tbG_of (List.mem_of_getElem? (i := 423) (by decide +kernel)) (by decide +kernel)
theorem md_X0_spreadHangs : Cond.code yX0_spreadHangs cX0_spreadHangs 3 none ∈ tbG ∧ Cond.instanceMethod yX0_spreadHangs ∈ tbG ∧ Cond.selects (yX0_spreadHangs).cls yX0_spreadHangs yX0_spreadHangs ∈ tbG ∧ Cond.initialized (yX0_spreadHangs).cls ∈ tbG ∧ plainName (yX0_spreadHangs).cls = true ∧ (yX0_spreadHangs).cls ≠ "java/lang/invoke/MethodHandle" ∧ (yX0_spreadHangs).cls ≠ "java/lang/invoke/VarHandle" ∧ (parseMethodDescriptor (yX0_spreadHangs).desc).map (fun d => d.parameters.length) = some 0 := ⟨mc_X0_spreadHangs, (tbG_of (List.mem_of_getElem? (i := 421) (by decide +kernel)) (by decide +kernel) : Cond.instanceMethod yX0_spreadHangs ∈ tbG), (tbG_of (List.mem_of_getElem? (i := 422) (by decide +kernel)) (by decide +kernel) : Cond.selects (yX0_spreadHangs).cls yX0_spreadHangs yX0_spreadHangs ∈ tbG), (tbG_of (List.mem_of_getElem? (i := 48) (by decide +kernel)) (by decide +kernel) : Cond.initialized (yX0_spreadHangs).cls ∈ tbG), by decide +kernel, by decide +kernel, by decide +kernel, by decide +kernel⟩
theorem mc_X10_about : Cond.code yX10_about cX10_about 3 (some .int) ∈ tbG := tbG_of (List.mem_of_getElem? (i := 858) (by decide +kernel)) (by decide +kernel)
theorem md_X10_about : Cond.code yX10_about cX10_about 3 (some .int) ∈ tbG ∧ Cond.instanceMethod yX10_about ∈ tbG ∧ Cond.selects (yX10_about).cls yX10_about yX10_about ∈ tbG ∧ Cond.initialized (yX10_about).cls ∈ tbG ∧ plainName (yX10_about).cls = true ∧ (yX10_about).cls ≠ "java/lang/invoke/MethodHandle" ∧ (yX10_about).cls ≠ "java/lang/invoke/VarHandle" ∧ (parseMethodDescriptor (yX10_about).desc).map (fun d => d.parameters.length) = some 2 := ⟨mc_X10_about, (tbG_of (List.mem_of_getElem? (i := 856) (by decide +kernel)) (by decide +kernel) : Cond.instanceMethod yX10_about ∈ tbG), (tbG_of (List.mem_of_getElem? (i := 857) (by decide +kernel)) (by decide +kernel) : Cond.selects (yX10_about).cls yX10_about yX10_about ∈ tbG), (tbG_of (List.mem_of_getElem? (i := 57) (by decide +kernel)) (by decide +kernel) : Cond.initialized (yX10_about).cls ∈ tbG), by decide +kernel, by decide +kernel, by decide +kernel, by decide +kernel⟩
theorem mc_X10_address : Cond.code yX10_address cX10_address 2 (some .int) ∈ tbG := tbG_of (List.mem_of_getElem? (i := 1019) (by decide +kernel)) (by decide +kernel)
theorem md_X10_address : Cond.code yX10_address cX10_address 2 (some .int) ∈ tbG ∧ Cond.instanceMethod yX10_address ∈ tbG ∧ Cond.selects (yX10_address).cls yX10_address yX10_address ∈ tbG ∧ Cond.initialized (yX10_address).cls ∈ tbG ∧ plainName (yX10_address).cls = true ∧ (yX10_address).cls ≠ "java/lang/invoke/MethodHandle" ∧ (yX10_address).cls ≠ "java/lang/invoke/VarHandle" ∧ (parseMethodDescriptor (yX10_address).desc).map (fun d => d.parameters.length) = some 1 := ⟨mc_X10_address, (tbG_of (List.mem_of_getElem? (i := 1017) (by decide +kernel)) (by decide +kernel) : Cond.instanceMethod yX10_address ∈ tbG), (tbG_of (List.mem_of_getElem? (i := 1018) (by decide +kernel)) (by decide +kernel) : Cond.selects (yX10_address).cls yX10_address yX10_address ∈ tbG), (tbG_of (List.mem_of_getElem? (i := 57) (by decide +kernel)) (by decide +kernel) : Cond.initialized (yX10_address).cls ∈ tbG), by decide +kernel, by decide +kernel, by decide +kernel, by decide +kernel⟩
theorem mc_X10_answer : Cond.code yX10_answer cX10_answer 4 (some .int) ∈ tbG := tbG_of (List.mem_of_getElem? (i := 877) (by decide +kernel)) (by decide +kernel)
theorem md_X10_answer : Cond.code yX10_answer cX10_answer 4 (some .int) ∈ tbG ∧ Cond.instanceMethod yX10_answer ∈ tbG ∧ Cond.selects (yX10_answer).cls yX10_answer yX10_answer ∈ tbG ∧ Cond.initialized (yX10_answer).cls ∈ tbG ∧ plainName (yX10_answer).cls = true ∧ (yX10_answer).cls ≠ "java/lang/invoke/MethodHandle" ∧ (yX10_answer).cls ≠ "java/lang/invoke/VarHandle" ∧ (parseMethodDescriptor (yX10_answer).desc).map (fun d => d.parameters.length) = some 3 := ⟨mc_X10_answer, (tbG_of (List.mem_of_getElem? (i := 875) (by decide +kernel)) (by decide +kernel) : Cond.instanceMethod yX10_answer ∈ tbG), (tbG_of (List.mem_of_getElem? (i := 876) (by decide +kernel)) (by decide +kernel) : Cond.selects (yX10_answer).cls yX10_answer yX10_answer ∈ tbG), (tbG_of (List.mem_of_getElem? (i := 57) (by decide +kernel)) (by decide +kernel) : Cond.initialized (yX10_answer).cls ∈ tbG), by decide +kernel, by decide +kernel, by decide +kernel, by decide +kernel⟩
theorem mc_X10_arrange : Cond.code yX10_arrange cX10_arrange 4 none ∈ tbG := tbG_of (List.mem_of_getElem? (i := 862) (by decide +kernel)) (by decide +kernel)
theorem md_X10_arrange : Cond.code yX10_arrange cX10_arrange 4 none ∈ tbG ∧ Cond.instanceMethod yX10_arrange ∈ tbG ∧ Cond.selects (yX10_arrange).cls yX10_arrange yX10_arrange ∈ tbG ∧ Cond.initialized (yX10_arrange).cls ∈ tbG ∧ plainName (yX10_arrange).cls = true ∧ (yX10_arrange).cls ≠ "java/lang/invoke/MethodHandle" ∧ (yX10_arrange).cls ≠ "java/lang/invoke/VarHandle" ∧ (parseMethodDescriptor (yX10_arrange).desc).map (fun d => d.parameters.length) = some 0 := ⟨mc_X10_arrange, (tbG_of (List.mem_of_getElem? (i := 861) (by decide +kernel)) (by decide +kernel) : Cond.instanceMethod yX10_arrange ∈ tbG), (tbG_of (List.mem_of_getElem? (i := 29) (by decide +kernel)) (by decide +kernel) : Cond.selects (yX10_arrange).cls yX10_arrange yX10_arrange ∈ tbG), (tbG_of (List.mem_of_getElem? (i := 57) (by decide +kernel)) (by decide +kernel) : Cond.initialized (yX10_arrange).cls ∈ tbG), by decide +kernel, by decide +kernel, by decide +kernel, by decide +kernel⟩
theorem mc_X10_asked : Cond.code yX10_asked cX10_asked 3 (some .int) ∈ tbG := tbG_of (List.mem_of_getElem? (i := 1007) (by decide +kernel)) (by decide +kernel)
theorem md_X10_asked : Cond.code yX10_asked cX10_asked 3 (some .int) ∈ tbG ∧ Cond.instanceMethod yX10_asked ∈ tbG ∧ Cond.selects (yX10_asked).cls yX10_asked yX10_asked ∈ tbG ∧ Cond.initialized (yX10_asked).cls ∈ tbG ∧ plainName (yX10_asked).cls = true ∧ (yX10_asked).cls ≠ "java/lang/invoke/MethodHandle" ∧ (yX10_asked).cls ≠ "java/lang/invoke/VarHandle" ∧ (parseMethodDescriptor (yX10_asked).desc).map (fun d => d.parameters.length) = some 0 := ⟨mc_X10_asked, (tbG_of (List.mem_of_getElem? (i := 1006) (by decide +kernel)) (by decide +kernel) : Cond.instanceMethod yX10_asked ∈ tbG), (tbG_of (List.mem_of_getElem? (i := 43) (by decide +kernel)) (by decide +kernel) : Cond.selects (yX10_asked).cls yX10_asked yX10_asked ∈ tbG), (tbG_of (List.mem_of_getElem? (i := 57) (by decide +kernel)) (by decide +kernel) : Cond.initialized (yX10_asked).cls ∈ tbG), by decide +kernel, by decide +kernel, by decide +kernel, by decide +kernel⟩
theorem mc_X10_clear : Cond.code yX10_clear cX10_clear 4 (some .int) ∈ tbG := tbG_of (List.mem_of_getElem? (i := 888) (by decide +kernel)) (by decide +kernel)
theorem md_X10_clear : Cond.code yX10_clear cX10_clear 4 (some .int) ∈ tbG ∧ Cond.instanceMethod yX10_clear ∈ tbG ∧ Cond.selects (yX10_clear).cls yX10_clear yX10_clear ∈ tbG ∧ Cond.initialized (yX10_clear).cls ∈ tbG ∧ plainName (yX10_clear).cls = true ∧ (yX10_clear).cls ≠ "java/lang/invoke/MethodHandle" ∧ (yX10_clear).cls ≠ "java/lang/invoke/VarHandle" ∧ (parseMethodDescriptor (yX10_clear).desc).map (fun d => d.parameters.length) = some 2 := ⟨mc_X10_clear, (tbG_of (List.mem_of_getElem? (i := 886) (by decide +kernel)) (by decide +kernel) : Cond.instanceMethod yX10_clear ∈ tbG), (tbG_of (List.mem_of_getElem? (i := 887) (by decide +kernel)) (by decide +kernel) : Cond.selects (yX10_clear).cls yX10_clear yX10_clear ∈ tbG), (tbG_of (List.mem_of_getElem? (i := 57) (by decide +kernel)) (by decide +kernel) : Cond.initialized (yX10_clear).cls ∈ tbG), by decide +kernel, by decide +kernel, by decide +kernel, by decide +kernel⟩
theorem mc_X10_comesTo : Cond.code yX10_comesTo cX10_comesTo 7 (some .boolean) ∈ tbG := tbG_of (List.mem_of_getElem? (i := 850) (by decide +kernel)) (by decide +kernel)
theorem md_X10_comesTo : Cond.code yX10_comesTo cX10_comesTo 7 (some .boolean) ∈ tbG ∧ Cond.instanceMethod yX10_comesTo ∈ tbG ∧ Cond.selects (yX10_comesTo).cls yX10_comesTo yX10_comesTo ∈ tbG ∧ Cond.initialized (yX10_comesTo).cls ∈ tbG ∧ plainName (yX10_comesTo).cls = true ∧ (yX10_comesTo).cls ≠ "java/lang/invoke/MethodHandle" ∧ (yX10_comesTo).cls ≠ "java/lang/invoke/VarHandle" ∧ (parseMethodDescriptor (yX10_comesTo).desc).map (fun d => d.parameters.length) = some 3 := ⟨mc_X10_comesTo, (tbG_of (List.mem_of_getElem? (i := 849) (by decide +kernel)) (by decide +kernel) : Cond.instanceMethod yX10_comesTo ∈ tbG), (tbG_of (List.mem_of_getElem? (i := 28) (by decide +kernel)) (by decide +kernel) : Cond.selects (yX10_comesTo).cls yX10_comesTo yX10_comesTo ∈ tbG), (tbG_of (List.mem_of_getElem? (i := 57) (by decide +kernel)) (by decide +kernel) : Cond.initialized (yX10_comesTo).cls ∈ tbG), by decide +kernel, by decide +kernel, by decide +kernel, by decide +kernel⟩
theorem mc_X10_copy : Cond.code yX10_copy cX10_copy 5 (some .int) ∈ tbG := tbG_of (List.mem_of_getElem? (i := 945) (by decide +kernel)) (by decide +kernel)
theorem md_X10_copy : Cond.code yX10_copy cX10_copy 5 (some .int) ∈ tbG ∧ Cond.instanceMethod yX10_copy ∈ tbG ∧ Cond.selects (yX10_copy).cls yX10_copy yX10_copy ∈ tbG ∧ Cond.initialized (yX10_copy).cls ∈ tbG ∧ plainName (yX10_copy).cls = true ∧ (yX10_copy).cls ≠ "java/lang/invoke/MethodHandle" ∧ (yX10_copy).cls ≠ "java/lang/invoke/VarHandle" ∧ (parseMethodDescriptor (yX10_copy).desc).map (fun d => d.parameters.length) = some 2 := ⟨mc_X10_copy, (tbG_of (List.mem_of_getElem? (i := 943) (by decide +kernel)) (by decide +kernel) : Cond.instanceMethod yX10_copy ∈ tbG), (tbG_of (List.mem_of_getElem? (i := 944) (by decide +kernel)) (by decide +kernel) : Cond.selects (yX10_copy).cls yX10_copy yX10_copy ∈ tbG), (tbG_of (List.mem_of_getElem? (i := 57) (by decide +kernel)) (by decide +kernel) : Cond.initialized (yX10_copy).cls ∈ tbG), by decide +kernel, by decide +kernel, by decide +kernel, by decide +kernel⟩
theorem mc_X10_count : Cond.code yX10_count cX10_count 3 (some .int) ∈ tbG := tbG_of (List.mem_of_getElem? (i := 865) (by decide +kernel)) (by decide +kernel)
theorem md_X10_count : Cond.code yX10_count cX10_count 3 (some .int) ∈ tbG ∧ Cond.static yX10_count ∈ tbG ∧ Cond.initialized (yX10_count).cls ∈ tbG ∧ plainName (yX10_count).cls = true ∧ (yX10_count).cls ≠ "java/lang/invoke/MethodHandle" ∧ (yX10_count).cls ≠ "java/lang/invoke/VarHandle" ∧ (parseMethodDescriptor (yX10_count).desc).map (fun d => d.parameters.length) = some 1 := ⟨mc_X10_count, (tbG_of (List.mem_of_getElem? (i := 864) (by decide +kernel)) (by decide +kernel) : Cond.static yX10_count ∈ tbG), (tbG_of (List.mem_of_getElem? (i := 57) (by decide +kernel)) (by decide +kernel) : Cond.initialized (yX10_count).cls ∈ tbG), by decide +kernel, by decide +kernel, by decide +kernel, by decide +kernel⟩
theorem mc_X10_counts : Cond.code yX10_counts cX10_counts 3 (some .int) ∈ tbG := tbG_of (List.mem_of_getElem? (i := 925) (by decide +kernel)) (by decide +kernel)
theorem md_X10_counts : Cond.code yX10_counts cX10_counts 3 (some .int) ∈ tbG ∧ Cond.instanceMethod yX10_counts ∈ tbG ∧ Cond.selects (yX10_counts).cls yX10_counts yX10_counts ∈ tbG ∧ Cond.initialized (yX10_counts).cls ∈ tbG ∧ plainName (yX10_counts).cls = true ∧ (yX10_counts).cls ≠ "java/lang/invoke/MethodHandle" ∧ (yX10_counts).cls ≠ "java/lang/invoke/VarHandle" ∧ (parseMethodDescriptor (yX10_counts).desc).map (fun d => d.parameters.length) = some 2 := ⟨mc_X10_counts, (tbG_of (List.mem_of_getElem? (i := 923) (by decide +kernel)) (by decide +kernel) : Cond.instanceMethod yX10_counts ∈ tbG), (tbG_of (List.mem_of_getElem? (i := 924) (by decide +kernel)) (by decide +kernel) : Cond.selects (yX10_counts).cls yX10_counts yX10_counts ∈ tbG), (tbG_of (List.mem_of_getElem? (i := 57) (by decide +kernel)) (by decide +kernel) : Cond.initialized (yX10_counts).cls ∈ tbG), by decide +kernel, by decide +kernel, by decide +kernel, by decide +kernel⟩
theorem mc_X10_cut : Cond.code yX10_cut cX10_cut 2 (some .int) ∈ tbG := tbG_of (List.mem_of_getElem? (i := 914) (by decide +kernel)) (by decide +kernel)
theorem md_X10_cut : Cond.code yX10_cut cX10_cut 2 (some .int) ∈ tbG ∧ Cond.static yX10_cut ∈ tbG ∧ Cond.initialized (yX10_cut).cls ∈ tbG ∧ plainName (yX10_cut).cls = true ∧ (yX10_cut).cls ≠ "java/lang/invoke/MethodHandle" ∧ (yX10_cut).cls ≠ "java/lang/invoke/VarHandle" ∧ (parseMethodDescriptor (yX10_cut).desc).map (fun d => d.parameters.length) = some 1 := ⟨mc_X10_cut, (tbG_of (List.mem_of_getElem? (i := 913) (by decide +kernel)) (by decide +kernel) : Cond.static yX10_cut ∈ tbG), (tbG_of (List.mem_of_getElem? (i := 57) (by decide +kernel)) (by decide +kernel) : Cond.initialized (yX10_cut).cls ∈ tbG), by decide +kernel, by decide +kernel, by decide +kernel, by decide +kernel⟩
theorem mc_X10_done : Cond.code yX10_done cX10_done 4 (some .int) ∈ tbG := tbG_of (List.mem_of_getElem? (i := 937) (by decide +kernel)) (by decide +kernel)
theorem md_X10_done : Cond.code yX10_done cX10_done 4 (some .int) ∈ tbG ∧ Cond.instanceMethod yX10_done ∈ tbG ∧ Cond.selects (yX10_done).cls yX10_done yX10_done ∈ tbG ∧ Cond.initialized (yX10_done).cls ∈ tbG ∧ plainName (yX10_done).cls = true ∧ (yX10_done).cls ≠ "java/lang/invoke/MethodHandle" ∧ (yX10_done).cls ≠ "java/lang/invoke/VarHandle" ∧ (parseMethodDescriptor (yX10_done).desc).map (fun d => d.parameters.length) = some 1 := ⟨mc_X10_done, (tbG_of (List.mem_of_getElem? (i := 935) (by decide +kernel)) (by decide +kernel) : Cond.instanceMethod yX10_done ∈ tbG), (tbG_of (List.mem_of_getElem? (i := 936) (by decide +kernel)) (by decide +kernel) : Cond.selects (yX10_done).cls yX10_done yX10_done ∈ tbG), (tbG_of (List.mem_of_getElem? (i := 57) (by decide +kernel)) (by decide +kernel) : Cond.initialized (yX10_done).cls ∈ tbG), by decide +kernel, by decide +kernel, by decide +kernel, by decide +kernel⟩
theorem mc_X10_field : Cond.code yX10_field cX10_field 5 (some .int) ∈ tbG := tbG_of (List.mem_of_getElem? (i := 799) (by decide +kernel)) (by decide +kernel)
theorem md_X10_field : Cond.code yX10_field cX10_field 5 (some .int) ∈ tbG ∧ Cond.instanceMethod yX10_field ∈ tbG ∧ Cond.selects (yX10_field).cls yX10_field yX10_field ∈ tbG ∧ Cond.initialized (yX10_field).cls ∈ tbG ∧ plainName (yX10_field).cls = true ∧ (yX10_field).cls ≠ "java/lang/invoke/MethodHandle" ∧ (yX10_field).cls ≠ "java/lang/invoke/VarHandle" ∧ (parseMethodDescriptor (yX10_field).desc).map (fun d => d.parameters.length) = some 3 := ⟨mc_X10_field, (tbG_of (List.mem_of_getElem? (i := 797) (by decide +kernel)) (by decide +kernel) : Cond.instanceMethod yX10_field ∈ tbG), (tbG_of (List.mem_of_getElem? (i := 798) (by decide +kernel)) (by decide +kernel) : Cond.selects (yX10_field).cls yX10_field yX10_field ∈ tbG), (tbG_of (List.mem_of_getElem? (i := 57) (by decide +kernel)) (by decide +kernel) : Cond.initialized (yX10_field).cls ∈ tbG), by decide +kernel, by decide +kernel, by decide +kernel, by decide +kernel⟩
theorem mc_X10_fieldsOf : Cond.code yX10_fieldsOf cX10_fieldsOf 5 (some .int) ∈ tbG := tbG_of (List.mem_of_getElem? (i := 842) (by decide +kernel)) (by decide +kernel)
theorem md_X10_fieldsOf : Cond.code yX10_fieldsOf cX10_fieldsOf 5 (some .int) ∈ tbG ∧ Cond.instanceMethod yX10_fieldsOf ∈ tbG ∧ Cond.selects (yX10_fieldsOf).cls yX10_fieldsOf yX10_fieldsOf ∈ tbG ∧ Cond.initialized (yX10_fieldsOf).cls ∈ tbG ∧ plainName (yX10_fieldsOf).cls = true ∧ (yX10_fieldsOf).cls ≠ "java/lang/invoke/MethodHandle" ∧ (yX10_fieldsOf).cls ≠ "java/lang/invoke/VarHandle" ∧ (parseMethodDescriptor (yX10_fieldsOf).desc).map (fun d => d.parameters.length) = some 1 := ⟨mc_X10_fieldsOf, (tbG_of (List.mem_of_getElem? (i := 841) (by decide +kernel)) (by decide +kernel) : Cond.instanceMethod yX10_fieldsOf ∈ tbG), (tbG_of (List.mem_of_getElem? (i := 26) (by decide +kernel)) (by decide +kernel) : Cond.selects (yX10_fieldsOf).cls yX10_fieldsOf yX10_fieldsOf ∈ tbG), (tbG_of (List.mem_of_getElem? (i := 57) (by decide +kernel)) (by decide +kernel) : Cond.initialized (yX10_fieldsOf).cls ∈ tbG), by decide +kernel, by decide +kernel, by decide +kernel, by decide +kernel⟩
theorem mc_X10_findHangs : Cond.code yX10_findHangs cX10_findHangs 4 none ∈ tbG := tbG_of (List.mem_of_getElem? (i := 830) (by decide +kernel)) (by decide +kernel)
theorem md_X10_findHangs : Cond.code yX10_findHangs cX10_findHangs 4 none ∈ tbG ∧ Cond.instanceMethod yX10_findHangs ∈ tbG ∧ Cond.selects (yX10_findHangs).cls yX10_findHangs yX10_findHangs ∈ tbG ∧ Cond.initialized (yX10_findHangs).cls ∈ tbG ∧ plainName (yX10_findHangs).cls = true ∧ (yX10_findHangs).cls ≠ "java/lang/invoke/MethodHandle" ∧ (yX10_findHangs).cls ≠ "java/lang/invoke/VarHandle" ∧ (parseMethodDescriptor (yX10_findHangs).desc).map (fun d => d.parameters.length) = some 0 := ⟨mc_X10_findHangs, (tbG_of (List.mem_of_getElem? (i := 829) (by decide +kernel)) (by decide +kernel) : Cond.instanceMethod yX10_findHangs ∈ tbG), (tbG_of (List.mem_of_getElem? (i := 23) (by decide +kernel)) (by decide +kernel) : Cond.selects (yX10_findHangs).cls yX10_findHangs yX10_findHangs ∈ tbG), (tbG_of (List.mem_of_getElem? (i := 57) (by decide +kernel)) (by decide +kernel) : Cond.initialized (yX10_findHangs).cls ∈ tbG), by decide +kernel, by decide +kernel, by decide +kernel, by decide +kernel⟩
theorem mc_X10_findRing : Cond.code yX10_findRing cX10_findRing 5 none ∈ tbG := tbG_of (List.mem_of_getElem? (i := 846) (by decide +kernel)) (by decide +kernel)
theorem md_X10_findRing : Cond.code yX10_findRing cX10_findRing 5 none ∈ tbG ∧ Cond.instanceMethod yX10_findRing ∈ tbG ∧ Cond.selects (yX10_findRing).cls yX10_findRing yX10_findRing ∈ tbG ∧ Cond.initialized (yX10_findRing).cls ∈ tbG ∧ plainName (yX10_findRing).cls = true ∧ (yX10_findRing).cls ≠ "java/lang/invoke/MethodHandle" ∧ (yX10_findRing).cls ≠ "java/lang/invoke/VarHandle" ∧ (parseMethodDescriptor (yX10_findRing).desc).map (fun d => d.parameters.length) = some 1 := ⟨mc_X10_findRing, (tbG_of (List.mem_of_getElem? (i := 845) (by decide +kernel)) (by decide +kernel) : Cond.instanceMethod yX10_findRing ∈ tbG), (tbG_of (List.mem_of_getElem? (i := 27) (by decide +kernel)) (by decide +kernel) : Cond.selects (yX10_findRing).cls yX10_findRing yX10_findRing ∈ tbG), (tbG_of (List.mem_of_getElem? (i := 57) (by decide +kernel)) (by decide +kernel) : Cond.initialized (yX10_findRing).cls ∈ tbG), by decide +kernel, by decide +kernel, by decide +kernel, by decide +kernel⟩
theorem mc_X10_followers : Cond.code yX10_followers cX10_followers 4 (some .int) ∈ tbG := tbG_of (List.mem_of_getElem? (i := 869) (by decide +kernel)) (by decide +kernel)
theorem md_X10_followers : Cond.code yX10_followers cX10_followers 4 (some .int) ∈ tbG ∧ Cond.instanceMethod yX10_followers ∈ tbG ∧ Cond.selects (yX10_followers).cls yX10_followers yX10_followers ∈ tbG ∧ Cond.initialized (yX10_followers).cls ∈ tbG ∧ plainName (yX10_followers).cls = true ∧ (yX10_followers).cls ≠ "java/lang/invoke/MethodHandle" ∧ (yX10_followers).cls ≠ "java/lang/invoke/VarHandle" ∧ (parseMethodDescriptor (yX10_followers).desc).map (fun d => d.parameters.length) = some 1 := ⟨mc_X10_followers, (tbG_of (List.mem_of_getElem? (i := 868) (by decide +kernel)) (by decide +kernel) : Cond.instanceMethod yX10_followers ∈ tbG), (tbG_of (List.mem_of_getElem? (i := 30) (by decide +kernel)) (by decide +kernel) : Cond.selects (yX10_followers).cls yX10_followers yX10_followers ∈ tbG), (tbG_of (List.mem_of_getElem? (i := 57) (by decide +kernel)) (by decide +kernel) : Cond.initialized (yX10_followers).cls ∈ tbG), by decide +kernel, by decide +kernel, by decide +kernel, by decide +kernel⟩
theorem mc_X10_found : Cond.code yX10_found cX10_found 2 (some .int) ∈ tbG := tbG_of (List.mem_of_getElem? (i := 995) (by decide +kernel)) (by decide +kernel)
theorem md_X10_found : Cond.code yX10_found cX10_found 2 (some .int) ∈ tbG ∧ Cond.instanceMethod yX10_found ∈ tbG ∧ Cond.selects (yX10_found).cls yX10_found yX10_found ∈ tbG ∧ Cond.initialized (yX10_found).cls ∈ tbG ∧ plainName (yX10_found).cls = true ∧ (yX10_found).cls ≠ "java/lang/invoke/MethodHandle" ∧ (yX10_found).cls ≠ "java/lang/invoke/VarHandle" ∧ (parseMethodDescriptor (yX10_found).desc).map (fun d => d.parameters.length) = some 1 := ⟨mc_X10_found, (tbG_of (List.mem_of_getElem? (i := 993) (by decide +kernel)) (by decide +kernel) : Cond.instanceMethod yX10_found ∈ tbG), (tbG_of (List.mem_of_getElem? (i := 994) (by decide +kernel)) (by decide +kernel) : Cond.selects (yX10_found).cls yX10_found yX10_found ∈ tbG), (tbG_of (List.mem_of_getElem? (i := 57) (by decide +kernel)) (by decide +kernel) : Cond.initialized (yX10_found).cls ∈ tbG), by decide +kernel, by decide +kernel, by decide +kernel, by decide +kernel⟩
theorem mc_X10_goesOn : Cond.code yX10_goesOn cX10_goesOn 4 (some .boolean) ∈ tbG := tbG_of (List.mem_of_getElem? (i := 991) (by decide +kernel)) (by decide +kernel)
theorem md_X10_goesOn : Cond.code yX10_goesOn cX10_goesOn 4 (some .boolean) ∈ tbG ∧ Cond.instanceMethod yX10_goesOn ∈ tbG ∧ Cond.selects (yX10_goesOn).cls yX10_goesOn yX10_goesOn ∈ tbG ∧ Cond.initialized (yX10_goesOn).cls ∈ tbG ∧ plainName (yX10_goesOn).cls = true ∧ (yX10_goesOn).cls ≠ "java/lang/invoke/MethodHandle" ∧ (yX10_goesOn).cls ≠ "java/lang/invoke/VarHandle" ∧ (parseMethodDescriptor (yX10_goesOn).desc).map (fun d => d.parameters.length) = some 1 := ⟨mc_X10_goesOn, (tbG_of (List.mem_of_getElem? (i := 990) (by decide +kernel)) (by decide +kernel) : Cond.instanceMethod yX10_goesOn ∈ tbG), (tbG_of (List.mem_of_getElem? (i := 42) (by decide +kernel)) (by decide +kernel) : Cond.selects (yX10_goesOn).cls yX10_goesOn yX10_goesOn ∈ tbG), (tbG_of (List.mem_of_getElem? (i := 57) (by decide +kernel)) (by decide +kernel) : Cond.initialized (yX10_goesOn).cls ∈ tbG), by decide +kernel, by decide +kernel, by decide +kernel, by decide +kernel⟩
theorem mc_X10_hangs : Cond.code yX10_hangs cX10_hangs 3 (some .int) ∈ tbG := tbG_of (List.mem_of_getElem? (i := 873) (by decide +kernel)) (by decide +kernel)
theorem md_X10_hangs : Cond.code yX10_hangs cX10_hangs 3 (some .int) ∈ tbG ∧ Cond.instanceMethod yX10_hangs ∈ tbG ∧ Cond.selects (yX10_hangs).cls yX10_hangs yX10_hangs ∈ tbG ∧ Cond.initialized (yX10_hangs).cls ∈ tbG ∧ plainName (yX10_hangs).cls = true ∧ (yX10_hangs).cls ≠ "java/lang/invoke/MethodHandle" ∧ (yX10_hangs).cls ≠ "java/lang/invoke/VarHandle" ∧ (parseMethodDescriptor (yX10_hangs).desc).map (fun d => d.parameters.length) = some 2 := ⟨mc_X10_hangs, (tbG_of (List.mem_of_getElem? (i := 871) (by decide +kernel)) (by decide +kernel) : Cond.instanceMethod yX10_hangs ∈ tbG), (tbG_of (List.mem_of_getElem? (i := 872) (by decide +kernel)) (by decide +kernel) : Cond.selects (yX10_hangs).cls yX10_hangs yX10_hangs ∈ tbG), (tbG_of (List.mem_of_getElem? (i := 57) (by decide +kernel)) (by decide +kernel) : Cond.initialized (yX10_hangs).cls ∈ tbG), by decide +kernel, by decide +kernel, by decide +kernel, by decide +kernel⟩
theorem mc_X10_hasLocked : Cond.code yX10_hasLocked cX10_hasLocked 4 (some .boolean) ∈ tbG := tbG_of (List.mem_of_getElem? (i := 949) (by decide +kernel)) (by decide +kernel)
theorem md_X10_hasLocked : Cond.code yX10_hasLocked cX10_hasLocked 4 (some .boolean) ∈ tbG ∧ Cond.instanceMethod yX10_hasLocked ∈ tbG ∧ Cond.selects (yX10_hasLocked).cls yX10_hasLocked yX10_hasLocked ∈ tbG ∧ Cond.initialized (yX10_hasLocked).cls ∈ tbG ∧ plainName (yX10_hasLocked).cls = true ∧ (yX10_hasLocked).cls ≠ "java/lang/invoke/MethodHandle" ∧ (yX10_hasLocked).cls ≠ "java/lang/invoke/VarHandle" ∧ (parseMethodDescriptor (yX10_hasLocked).desc).map (fun d => d.parameters.length) = some 1 := ⟨mc_X10_hasLocked, (tbG_of (List.mem_of_getElem? (i := 948) (by decide +kernel)) (by decide +kernel) : Cond.instanceMethod yX10_hasLocked ∈ tbG), (tbG_of (List.mem_of_getElem? (i := 38) (by decide +kernel)) (by decide +kernel) : Cond.selects (yX10_hasLocked).cls yX10_hasLocked yX10_hasLocked ∈ tbG), (tbG_of (List.mem_of_getElem? (i := 57) (by decide +kernel)) (by decide +kernel) : Cond.initialized (yX10_hasLocked).cls ∈ tbG), by decide +kernel, by decide +kernel, by decide +kernel, by decide +kernel⟩
theorem mc_X10_in : Cond.code yX10_in cX10_in 3 (some .boolean) ∈ tbG := tbG_of (List.mem_of_getElem? (i := 802) (by decide +kernel)) (by decide +kernel)
theorem md_X10_in : Cond.code yX10_in cX10_in 3 (some .boolean) ∈ tbG ∧ Cond.static yX10_in ∈ tbG ∧ Cond.initialized (yX10_in).cls ∈ tbG ∧ plainName (yX10_in).cls = true ∧ (yX10_in).cls ≠ "java/lang/invoke/MethodHandle" ∧ (yX10_in).cls ≠ "java/lang/invoke/VarHandle" ∧ (parseMethodDescriptor (yX10_in).desc).map (fun d => d.parameters.length) = some 3 := ⟨mc_X10_in, (tbG_of (List.mem_of_getElem? (i := 801) (by decide +kernel)) (by decide +kernel) : Cond.static yX10_in ∈ tbG), (tbG_of (List.mem_of_getElem? (i := 57) (by decide +kernel)) (by decide +kernel) : Cond.initialized (yX10_in).cls ∈ tbG), by decide +kernel, by decide +kernel, by decide +kernel, by decide +kernel⟩
theorem mc_X10_isLocked : Cond.code yX10_isLocked cX10_isLocked 5 (some .boolean) ∈ tbG := tbG_of (List.mem_of_getElem? (i := 884) (by decide +kernel)) (by decide +kernel)
theorem md_X10_isLocked : Cond.code yX10_isLocked cX10_isLocked 5 (some .boolean) ∈ tbG ∧ Cond.instanceMethod yX10_isLocked ∈ tbG ∧ Cond.selects (yX10_isLocked).cls yX10_isLocked yX10_isLocked ∈ tbG ∧ Cond.initialized (yX10_isLocked).cls ∈ tbG ∧ plainName (yX10_isLocked).cls = true ∧ (yX10_isLocked).cls ≠ "java/lang/invoke/MethodHandle" ∧ (yX10_isLocked).cls ≠ "java/lang/invoke/VarHandle" ∧ (parseMethodDescriptor (yX10_isLocked).desc).map (fun d => d.parameters.length) = some 2 := ⟨mc_X10_isLocked, (tbG_of (List.mem_of_getElem? (i := 883) (by decide +kernel)) (by decide +kernel) : Cond.instanceMethod yX10_isLocked ∈ tbG), (tbG_of (List.mem_of_getElem? (i := 31) (by decide +kernel)) (by decide +kernel) : Cond.selects (yX10_isLocked).cls yX10_isLocked yX10_isLocked ∈ tbG), (tbG_of (List.mem_of_getElem? (i := 57) (by decide +kernel)) (by decide +kernel) : Cond.initialized (yX10_isLocked).cls ∈ tbG), by decide +kernel, by decide +kernel, by decide +kernel, by decide +kernel⟩
theorem mc_X10_isOfField : Cond.code yX10_isOfField cX10_isOfField 1 (some .boolean) ∈ tbG := tbG_of (List.mem_of_getElem? (i := 812) (by decide +kernel)) (by decide +kernel)
theorem md_X10_isOfField : Cond.code yX10_isOfField cX10_isOfField 1 (some .boolean) ∈ tbG ∧ Cond.static yX10_isOfField ∈ tbG ∧ Cond.initialized (yX10_isOfField).cls ∈ tbG ∧ plainName (yX10_isOfField).cls = true ∧ (yX10_isOfField).cls ≠ "java/lang/invoke/MethodHandle" ∧ (yX10_isOfField).cls ≠ "java/lang/invoke/VarHandle" ∧ (parseMethodDescriptor (yX10_isOfField).desc).map (fun d => d.parameters.length) = some 1 := ⟨mc_X10_isOfField, (tbG_of (List.mem_of_getElem? (i := 811) (by decide +kernel)) (by decide +kernel) : Cond.static yX10_isOfField ∈ tbG), (tbG_of (List.mem_of_getElem? (i := 57) (by decide +kernel)) (by decide +kernel) : Cond.initialized (yX10_isOfField).cls ∈ tbG), by decide +kernel, by decide +kernel, by decide +kernel, by decide +kernel⟩
theorem mc_X10_isSo : Cond.code yX10_isSo cX10_isSo 2 (some .boolean) ∈ tbG := tbG_of (List.mem_of_getElem? (i := 920) (by decide +kernel)) (by decide +kernel)
theorem md_X10_isSo : Cond.code yX10_isSo cX10_isSo 2 (some .boolean) ∈ tbG ∧ Cond.instanceMethod yX10_isSo ∈ tbG ∧ Cond.selects (yX10_isSo).cls yX10_isSo yX10_isSo ∈ tbG ∧ Cond.initialized (yX10_isSo).cls ∈ tbG ∧ plainName (yX10_isSo).cls = true ∧ (yX10_isSo).cls ≠ "java/lang/invoke/MethodHandle" ∧ (yX10_isSo).cls ≠ "java/lang/invoke/VarHandle" ∧ (parseMethodDescriptor (yX10_isSo).desc).map (fun d => d.parameters.length) = some 1 := ⟨mc_X10_isSo, (tbG_of (List.mem_of_getElem? (i := 919) (by decide +kernel)) (by decide +kernel) : Cond.instanceMethod yX10_isSo ∈ tbG), (tbG_of (List.mem_of_getElem? (i := 36) (by decide +kernel)) (by decide +kernel) : Cond.selects (yX10_isSo).cls yX10_isSo yX10_isSo ∈ tbG), (tbG_of (List.mem_of_getElem? (i := 57) (by decide +kernel)) (by decide +kernel) : Cond.initialized (yX10_isSo).cls ∈ tbG), by decide +kernel, by decide +kernel, by decide +kernel, by decide +kernel⟩
theorem mc_X10_join : Cond.code yX10_join cX10_join 9 (some .int) ∈ tbG := tbG_of (List.mem_of_getElem? (i := 953) (by decide +kernel)) (by decide +kernel)
theorem md_X10_join : Cond.code yX10_join cX10_join 9 (some .int) ∈ tbG ∧ Cond.instanceMethod yX10_join ∈ tbG ∧ Cond.selects (yX10_join).cls yX10_join yX10_join ∈ tbG ∧ Cond.initialized (yX10_join).cls ∈ tbG ∧ plainName (yX10_join).cls = true ∧ (yX10_join).cls ≠ "java/lang/invoke/MethodHandle" ∧ (yX10_join).cls ≠ "java/lang/invoke/VarHandle" ∧ (parseMethodDescriptor (yX10_join).desc).map (fun d => d.parameters.length) = some 4 := ⟨mc_X10_join, (tbG_of (List.mem_of_getElem? (i := 951) (by decide +kernel)) (by decide +kernel) : Cond.instanceMethod yX10_join ∈ tbG), (tbG_of (List.mem_of_getElem? (i := 952) (by decide +kernel)) (by decide +kernel) : Cond.selects (yX10_join).cls yX10_join yX10_join ∈ tbG), (tbG_of (List.mem_of_getElem? (i := 57) (by decide +kernel)) (by decide +kernel) : Cond.initialized (yX10_join).cls ∈ tbG), by decide +kernel, by decide +kernel, by decide +kernel, by decide +kernel⟩
theorem mc_X10_judge : Cond.code yX10_judge cX10_judge 4 none ∈ tbG := tbG_of (List.mem_of_getElem? (i := 900) (by decide +kernel)) (by decide +kernel)
theorem md_X10_judge : Cond.code yX10_judge cX10_judge 4 none ∈ tbG ∧ Cond.instanceMethod yX10_judge ∈ tbG ∧ Cond.selects (yX10_judge).cls yX10_judge yX10_judge ∈ tbG ∧ Cond.initialized (yX10_judge).cls ∈ tbG ∧ plainName (yX10_judge).cls = true ∧ (yX10_judge).cls ≠ "java/lang/invoke/MethodHandle" ∧ (yX10_judge).cls ≠ "java/lang/invoke/VarHandle" ∧ (parseMethodDescriptor (yX10_judge).desc).map (fun d => d.parameters.length) = some 1 := ⟨mc_X10_judge, (tbG_of (List.mem_of_getElem? (i := 899) (by decide +kernel)) (by decide +kernel) : Cond.instanceMethod yX10_judge ∈ tbG), (tbG_of (List.mem_of_getElem? (i := 33) (by decide +kernel)) (by decide +kernel) : Cond.selects (yX10_judge).cls yX10_judge yX10_judge ∈ tbG), (tbG_of (List.mem_of_getElem? (i := 57) (by decide +kernel)) (by decide +kernel) : Cond.initialized (yX10_judge).cls ∈ tbG), by decide +kernel, by decide +kernel, by decide +kernel, by decide +kernel⟩
theorem mc_X10_kept : Cond.code yX10_kept cX10_kept 4 (some .int) ∈ tbG := tbG_of (List.mem_of_getElem? (i := 892) (by decide +kernel)) (by decide +kernel)
theorem md_X10_kept : Cond.code yX10_kept cX10_kept 4 (some .int) ∈ tbG ∧ Cond.instanceMethod yX10_kept ∈ tbG ∧ Cond.selects (yX10_kept).cls yX10_kept yX10_kept ∈ tbG ∧ Cond.initialized (yX10_kept).cls ∈ tbG ∧ plainName (yX10_kept).cls = true ∧ (yX10_kept).cls ≠ "java/lang/invoke/MethodHandle" ∧ (yX10_kept).cls ≠ "java/lang/invoke/VarHandle" ∧ (parseMethodDescriptor (yX10_kept).desc).map (fun d => d.parameters.length) = some 2 := ⟨mc_X10_kept, (tbG_of (List.mem_of_getElem? (i := 890) (by decide +kernel)) (by decide +kernel) : Cond.instanceMethod yX10_kept ∈ tbG), (tbG_of (List.mem_of_getElem? (i := 891) (by decide +kernel)) (by decide +kernel) : Cond.selects (yX10_kept).cls yX10_kept yX10_kept ∈ tbG), (tbG_of (List.mem_of_getElem? (i := 57) (by decide +kernel)) (by decide +kernel) : Cond.initialized (yX10_kept).cls ∈ tbG), by decide +kernel, by decide +kernel, by decide +kernel, by decide +kernel⟩
theorem mc_X10_layDraft : Cond.code yX10_layDraft cX10_layDraft 3 none ∈ tbG := tbG_of (List.mem_of_getElem? (i := 896) (by decide +kernel)) (by decide +kernel)
theorem md_X10_layDraft : Cond.code yX10_layDraft cX10_layDraft 3 none ∈ tbG ∧ Cond.instanceMethod yX10_layDraft ∈ tbG ∧ Cond.selects (yX10_layDraft).cls yX10_layDraft yX10_layDraft ∈ tbG ∧ Cond.initialized (yX10_layDraft).cls ∈ tbG ∧ plainName (yX10_layDraft).cls = true ∧ (yX10_layDraft).cls ≠ "java/lang/invoke/MethodHandle" ∧ (yX10_layDraft).cls ≠ "java/lang/invoke/VarHandle" ∧ (parseMethodDescriptor (yX10_layDraft).desc).map (fun d => d.parameters.length) = some 1 := ⟨mc_X10_layDraft, (tbG_of (List.mem_of_getElem? (i := 895) (by decide +kernel)) (by decide +kernel) : Cond.instanceMethod yX10_layDraft ∈ tbG), (tbG_of (List.mem_of_getElem? (i := 32) (by decide +kernel)) (by decide +kernel) : Cond.selects (yX10_layDraft).cls yX10_layDraft yX10_layDraft ∈ tbG), (tbG_of (List.mem_of_getElem? (i := 57) (by decide +kernel)) (by decide +kernel) : Cond.initialized (yX10_layDraft).cls ∈ tbG), by decide +kernel, by decide +kernel, by decide +kernel, by decide +kernel⟩
theorem mc_X10_needsOf : Cond.code yX10_needsOf cX10_needsOf 4 (some .long) ∈ tbG := tbG_of (List.mem_of_getElem? (i := 834) (by decide +kernel)) (by decide +kernel)
theorem md_X10_needsOf : Cond.code yX10_needsOf cX10_needsOf 4 (some .long) ∈ tbG ∧ Cond.instanceMethod yX10_needsOf ∈ tbG ∧ Cond.selects (yX10_needsOf).cls yX10_needsOf yX10_needsOf ∈ tbG ∧ Cond.initialized (yX10_needsOf).cls ∈ tbG ∧ plainName (yX10_needsOf).cls = true ∧ (yX10_needsOf).cls ≠ "java/lang/invoke/MethodHandle" ∧ (yX10_needsOf).cls ≠ "java/lang/invoke/VarHandle" ∧ (parseMethodDescriptor (yX10_needsOf).desc).map (fun d => d.parameters.length) = some 1 := ⟨mc_X10_needsOf, (tbG_of (List.mem_of_getElem? (i := 833) (by decide +kernel)) (by decide +kernel) : Cond.instanceMethod yX10_needsOf ∈ tbG), (tbG_of (List.mem_of_getElem? (i := 24) (by decide +kernel)) (by decide +kernel) : Cond.selects (yX10_needsOf).cls yX10_needsOf yX10_needsOf ∈ tbG), (tbG_of (List.mem_of_getElem? (i := 57) (by decide +kernel)) (by decide +kernel) : Cond.initialized (yX10_needsOf).cls ∈ tbG), by decide +kernel, by decide +kernel, by decide +kernel, by decide +kernel⟩
theorem mc_X10_noDraft : Cond.code yX10_noDraft cX10_noDraft 1 (some .boolean) ∈ tbG := tbG_of (List.mem_of_getElem? (i := 880) (by decide +kernel)) (by decide +kernel)
theorem md_X10_noDraft : Cond.code yX10_noDraft cX10_noDraft 1 (some .boolean) ∈ tbG ∧ Cond.static yX10_noDraft ∈ tbG ∧ Cond.initialized (yX10_noDraft).cls ∈ tbG ∧ plainName (yX10_noDraft).cls = true ∧ (yX10_noDraft).cls ≠ "java/lang/invoke/MethodHandle" ∧ (yX10_noDraft).cls ≠ "java/lang/invoke/VarHandle" ∧ (parseMethodDescriptor (yX10_noDraft).desc).map (fun d => d.parameters.length) = some 1 := ⟨mc_X10_noDraft, (tbG_of (List.mem_of_getElem? (i := 879) (by decide +kernel)) (by decide +kernel) : Cond.static yX10_noDraft ∈ tbG), (tbG_of (List.mem_of_getElem? (i := 57) (by decide +kernel)) (by decide +kernel) : Cond.initialized (yX10_noDraft).cls ∈ tbG), by decide +kernel, by decide +kernel, by decide +kernel, by decide +kernel⟩
theorem mc_X10_noField : Cond.code yX10_noField cX10_noField 2 (some .boolean) ∈ tbG := tbG_of (List.mem_of_getElem? (i := 816) (by decide +kernel)) (by decide +kernel)
theorem md_X10_noField : Cond.code yX10_noField cX10_noField 2 (some .boolean) ∈ tbG ∧ Cond.instanceMethod yX10_noField ∈ tbG ∧ Cond.selects (yX10_noField).cls yX10_noField yX10_noField ∈ tbG ∧ Cond.initialized (yX10_noField).cls ∈ tbG ∧ plainName (yX10_noField).cls = true ∧ (yX10_noField).cls ≠ "java/lang/invoke/MethodHandle" ∧ (yX10_noField).cls ≠ "java/lang/invoke/VarHandle" ∧ (parseMethodDescriptor (yX10_noField).desc).map (fun d => d.parameters.length) = some 1 := ⟨mc_X10_noField, (tbG_of (List.mem_of_getElem? (i := 815) (by decide +kernel)) (by decide +kernel) : Cond.instanceMethod yX10_noField ∈ tbG), (tbG_of (List.mem_of_getElem? (i := 21) (by decide +kernel)) (by decide +kernel) : Cond.selects (yX10_noField).cls yX10_noField yX10_noField ∈ tbG), (tbG_of (List.mem_of_getElem? (i := 57) (by decide +kernel)) (by decide +kernel) : Cond.initialized (yX10_noField).cls ∈ tbG), by decide +kernel, by decide +kernel, by decide +kernel, by decide +kernel⟩
theorem mc_X10_noPart : Cond.code yX10_noPart cX10_noPart 2 (some .boolean) ∈ tbG := tbG_of (List.mem_of_getElem? (i := 820) (by decide +kernel)) (by decide +kernel)
theorem md_X10_noPart : Cond.code yX10_noPart cX10_noPart 2 (some .boolean) ∈ tbG ∧ Cond.instanceMethod yX10_noPart ∈ tbG ∧ Cond.selects (yX10_noPart).cls yX10_noPart yX10_noPart ∈ tbG ∧ Cond.initialized (yX10_noPart).cls ∈ tbG ∧ plainName (yX10_noPart).cls = true ∧ (yX10_noPart).cls ≠ "java/lang/invoke/MethodHandle" ∧ (yX10_noPart).cls ≠ "java/lang/invoke/VarHandle" ∧ (parseMethodDescriptor (yX10_noPart).desc).map (fun d => d.parameters.length) = some 1 := ⟨mc_X10_noPart, (tbG_of (List.mem_of_getElem? (i := 819) (by decide +kernel)) (by decide +kernel) : Cond.instanceMethod yX10_noPart ∈ tbG), (tbG_of (List.mem_of_getElem? (i := 22) (by decide +kernel)) (by decide +kernel) : Cond.selects (yX10_noPart).cls yX10_noPart yX10_noPart ∈ tbG), (tbG_of (List.mem_of_getElem? (i := 57) (by decide +kernel)) (by decide +kernel) : Cond.initialized (yX10_noPart).cls ∈ tbG), by decide +kernel, by decide +kernel, by decide +kernel, by decide +kernel⟩
theorem mc_X10_noSeal : Cond.code yX10_noSeal cX10_noSeal 2 (some .boolean) ∈ tbG := tbG_of (List.mem_of_getElem? (i := 969) (by decide +kernel)) (by decide +kernel)
theorem md_X10_noSeal : Cond.code yX10_noSeal cX10_noSeal 2 (some .boolean) ∈ tbG ∧ Cond.instanceMethod yX10_noSeal ∈ tbG ∧ Cond.selects (yX10_noSeal).cls yX10_noSeal yX10_noSeal ∈ tbG ∧ Cond.initialized (yX10_noSeal).cls ∈ tbG ∧ plainName (yX10_noSeal).cls = true ∧ (yX10_noSeal).cls ≠ "java/lang/invoke/MethodHandle" ∧ (yX10_noSeal).cls ≠ "java/lang/invoke/VarHandle" ∧ (parseMethodDescriptor (yX10_noSeal).desc).map (fun d => d.parameters.length) = some 1 := ⟨mc_X10_noSeal, (tbG_of (List.mem_of_getElem? (i := 968) (by decide +kernel)) (by decide +kernel) : Cond.instanceMethod yX10_noSeal ∈ tbG), (tbG_of (List.mem_of_getElem? (i := 39) (by decide +kernel)) (by decide +kernel) : Cond.selects (yX10_noSeal).cls yX10_noSeal yX10_noSeal ∈ tbG), (tbG_of (List.mem_of_getElem? (i := 57) (by decide +kernel)) (by decide +kernel) : Cond.initialized (yX10_noSeal).cls ∈ tbG), by decide +kernel, by decide +kernel, by decide +kernel, by decide +kernel⟩
theorem mc_X10_odds : Cond.code yX10_odds cX10_odds 2 (some .int) ∈ tbG := tbG_of (List.mem_of_getElem? (i := 957) (by decide +kernel)) (by decide +kernel)
theorem md_X10_odds : Cond.code yX10_odds cX10_odds 2 (some .int) ∈ tbG ∧ Cond.instanceMethod yX10_odds ∈ tbG ∧ Cond.selects (yX10_odds).cls yX10_odds yX10_odds ∈ tbG ∧ Cond.initialized (yX10_odds).cls ∈ tbG ∧ plainName (yX10_odds).cls = true ∧ (yX10_odds).cls ≠ "java/lang/invoke/MethodHandle" ∧ (yX10_odds).cls ≠ "java/lang/invoke/VarHandle" ∧ (parseMethodDescriptor (yX10_odds).desc).map (fun d => d.parameters.length) = some 1 := ⟨mc_X10_odds, (tbG_of (List.mem_of_getElem? (i := 955) (by decide +kernel)) (by decide +kernel) : Cond.instanceMethod yX10_odds ∈ tbG), (tbG_of (List.mem_of_getElem? (i := 956) (by decide +kernel)) (by decide +kernel) : Cond.selects (yX10_odds).cls yX10_odds yX10_odds ∈ tbG), (tbG_of (List.mem_of_getElem? (i := 57) (by decide +kernel)) (by decide +kernel) : Cond.initialized (yX10_odds).cls ∈ tbG), by decide +kernel, by decide +kernel, by decide +kernel, by decide +kernel⟩
theorem mc_X10_ofTwo : Cond.code yX10_ofTwo cX10_ofTwo 3 (some .int) ∈ tbG := tbG_of (List.mem_of_getElem? (i := 911) (by decide +kernel)) (by decide +kernel)
theorem md_X10_ofTwo : Cond.code yX10_ofTwo cX10_ofTwo 3 (some .int) ∈ tbG ∧ Cond.static yX10_ofTwo ∈ tbG ∧ Cond.initialized (yX10_ofTwo).cls ∈ tbG ∧ plainName (yX10_ofTwo).cls = true ∧ (yX10_ofTwo).cls ≠ "java/lang/invoke/MethodHandle" ∧ (yX10_ofTwo).cls ≠ "java/lang/invoke/VarHandle" ∧ (parseMethodDescriptor (yX10_ofTwo).desc).map (fun d => d.parameters.length) = some 3 := ⟨mc_X10_ofTwo, (tbG_of (List.mem_of_getElem? (i := 910) (by decide +kernel)) (by decide +kernel) : Cond.static yX10_ofTwo ∈ tbG), (tbG_of (List.mem_of_getElem? (i := 57) (by decide +kernel)) (by decide +kernel) : Cond.initialized (yX10_ofTwo).cls ∈ tbG), by decide +kernel, by decide +kernel, by decide +kernel, by decide +kernel⟩
theorem mc_X10_open : Cond.code yX10_open cX10_open 3 (some .int) ∈ tbG := tbG_of (List.mem_of_getElem? (i := 965) (by decide +kernel)) (by decide +kernel)
theorem md_X10_open : Cond.code yX10_open cX10_open 3 (some .int) ∈ tbG ∧ Cond.instanceMethod yX10_open ∈ tbG ∧ Cond.selects (yX10_open).cls yX10_open yX10_open ∈ tbG ∧ Cond.initialized (yX10_open).cls ∈ tbG ∧ plainName (yX10_open).cls = true ∧ (yX10_open).cls ≠ "java/lang/invoke/MethodHandle" ∧ (yX10_open).cls ≠ "java/lang/invoke/VarHandle" ∧ (parseMethodDescriptor (yX10_open).desc).map (fun d => d.parameters.length) = some 1 := ⟨mc_X10_open, (tbG_of (List.mem_of_getElem? (i := 963) (by decide +kernel)) (by decide +kernel) : Cond.instanceMethod yX10_open ∈ tbG), (tbG_of (List.mem_of_getElem? (i := 964) (by decide +kernel)) (by decide +kernel) : Cond.selects (yX10_open).cls yX10_open yX10_open ∈ tbG), (tbG_of (List.mem_of_getElem? (i := 57) (by decide +kernel)) (by decide +kernel) : Cond.initialized (yX10_open).cls ∈ tbG), by decide +kernel, by decide +kernel, by decide +kernel, by decide +kernel⟩
theorem mc_X10_part : Cond.code yX10_part cX10_part 6 (some .int) ∈ tbG := tbG_of (List.mem_of_getElem? (i := 806) (by decide +kernel)) (by decide +kernel)
theorem md_X10_part : Cond.code yX10_part cX10_part 6 (some .int) ∈ tbG ∧ Cond.instanceMethod yX10_part ∈ tbG ∧ Cond.selects (yX10_part).cls yX10_part yX10_part ∈ tbG ∧ Cond.initialized (yX10_part).cls ∈ tbG ∧ plainName (yX10_part).cls = true ∧ (yX10_part).cls ≠ "java/lang/invoke/MethodHandle" ∧ (yX10_part).cls ≠ "java/lang/invoke/VarHandle" ∧ (parseMethodDescriptor (yX10_part).desc).map (fun d => d.parameters.length) = some 4 := ⟨mc_X10_part, (tbG_of (List.mem_of_getElem? (i := 804) (by decide +kernel)) (by decide +kernel) : Cond.instanceMethod yX10_part ∈ tbG), (tbG_of (List.mem_of_getElem? (i := 805) (by decide +kernel)) (by decide +kernel) : Cond.selects (yX10_part).cls yX10_part yX10_part ∈ tbG), (tbG_of (List.mem_of_getElem? (i := 57) (by decide +kernel)) (by decide +kernel) : Cond.initialized (yX10_part).cls ∈ tbG), by decide +kernel, by decide +kernel, by decide +kernel, by decide +kernel⟩
theorem mc_X10_partsOf : Cond.code yX10_partsOf cX10_partsOf 1 (some .int) ∈ tbG := tbG_of (List.mem_of_getElem? (i := 809) (by decide +kernel)) (by decide +kernel)
theorem md_X10_partsOf : Cond.code yX10_partsOf cX10_partsOf 1 (some .int) ∈ tbG ∧ Cond.static yX10_partsOf ∈ tbG ∧ Cond.initialized (yX10_partsOf).cls ∈ tbG ∧ plainName (yX10_partsOf).cls = true ∧ (yX10_partsOf).cls ≠ "java/lang/invoke/MethodHandle" ∧ (yX10_partsOf).cls ≠ "java/lang/invoke/VarHandle" ∧ (parseMethodDescriptor (yX10_partsOf).desc).map (fun d => d.parameters.length) = some 1 := ⟨mc_X10_partsOf, (tbG_of (List.mem_of_getElem? (i := 808) (by decide +kernel)) (by decide +kernel) : Cond.static yX10_partsOf ∈ tbG), (tbG_of (List.mem_of_getElem? (i := 57) (by decide +kernel)) (by decide +kernel) : Cond.initialized (yX10_partsOf).cls ∈ tbG), by decide +kernel, by decide +kernel, by decide +kernel, by decide +kernel⟩
theorem mc_X10_reach : Cond.code yX10_reach cX10_reach 7 (some .int) ∈ tbG := tbG_of (List.mem_of_getElem? (i := 981) (by decide +kernel)) (by decide +kernel)
theorem md_X10_reach : Cond.code yX10_reach cX10_reach 7 (some .int) ∈ tbG ∧ Cond.instanceMethod yX10_reach ∈ tbG ∧ Cond.selects (yX10_reach).cls yX10_reach yX10_reach ∈ tbG ∧ Cond.initialized (yX10_reach).cls ∈ tbG ∧ plainName (yX10_reach).cls = true ∧ (yX10_reach).cls ≠ "java/lang/invoke/MethodHandle" ∧ (yX10_reach).cls ≠ "java/lang/invoke/VarHandle" ∧ (parseMethodDescriptor (yX10_reach).desc).map (fun d => d.parameters.length) = some 1 := ⟨mc_X10_reach, (tbG_of (List.mem_of_getElem? (i := 979) (by decide +kernel)) (by decide +kernel) : Cond.instanceMethod yX10_reach ∈ tbG), (tbG_of (List.mem_of_getElem? (i := 980) (by decide +kernel)) (by decide +kernel) : Cond.selects (yX10_reach).cls yX10_reach yX10_reach ∈ tbG), (tbG_of (List.mem_of_getElem? (i := 57) (by decide +kernel)) (by decide +kernel) : Cond.initialized (yX10_reach).cls ∈ tbG), by decide +kernel, by decide +kernel, by decide +kernel, by decide +kernel⟩
theorem mc_X10_reached : Cond.code yX10_reached cX10_reached 6 (some .long) ∈ tbG := tbG_of (List.mem_of_getElem? (i := 838) (by decide +kernel)) (by decide +kernel)
theorem md_X10_reached : Cond.code yX10_reached cX10_reached 6 (some .long) ∈ tbG ∧ Cond.instanceMethod yX10_reached ∈ tbG ∧ Cond.selects (yX10_reached).cls yX10_reached yX10_reached ∈ tbG ∧ Cond.initialized (yX10_reached).cls ∈ tbG ∧ plainName (yX10_reached).cls = true ∧ (yX10_reached).cls ≠ "java/lang/invoke/MethodHandle" ∧ (yX10_reached).cls ≠ "java/lang/invoke/VarHandle" ∧ (parseMethodDescriptor (yX10_reached).desc).map (fun d => d.parameters.length) = some 1 := ⟨mc_X10_reached, (tbG_of (List.mem_of_getElem? (i := 837) (by decide +kernel)) (by decide +kernel) : Cond.instanceMethod yX10_reached ∈ tbG), (tbG_of (List.mem_of_getElem? (i := 25) (by decide +kernel)) (by decide +kernel) : Cond.selects (yX10_reached).cls yX10_reached yX10_reached ∈ tbG), (tbG_of (List.mem_of_getElem? (i := 57) (by decide +kernel)) (by decide +kernel) : Cond.initialized (yX10_reached).cls ∈ tbG), by decide +kernel, by decide +kernel, by decide +kernel, by decide +kernel⟩
theorem mc_X10_ring : Cond.code yX10_ring cX10_ring 2 (some .int) ∈ tbG := tbG_of (List.mem_of_getElem? (i := 854) (by decide +kernel)) (by decide +kernel)
theorem md_X10_ring : Cond.code yX10_ring cX10_ring 2 (some .int) ∈ tbG ∧ Cond.instanceMethod yX10_ring ∈ tbG ∧ Cond.selects (yX10_ring).cls yX10_ring yX10_ring ∈ tbG ∧ Cond.initialized (yX10_ring).cls ∈ tbG ∧ plainName (yX10_ring).cls = true ∧ (yX10_ring).cls ≠ "java/lang/invoke/MethodHandle" ∧ (yX10_ring).cls ≠ "java/lang/invoke/VarHandle" ∧ (parseMethodDescriptor (yX10_ring).desc).map (fun d => d.parameters.length) = some 1 := ⟨mc_X10_ring, (tbG_of (List.mem_of_getElem? (i := 852) (by decide +kernel)) (by decide +kernel) : Cond.instanceMethod yX10_ring ∈ tbG), (tbG_of (List.mem_of_getElem? (i := 853) (by decide +kernel)) (by decide +kernel) : Cond.selects (yX10_ring).cls yX10_ring yX10_ring ∈ tbG), (tbG_of (List.mem_of_getElem? (i := 57) (by decide +kernel)) (by decide +kernel) : Cond.initialized (yX10_ring).cls ∈ tbG), by decide +kernel, by decide +kernel, by decide +kernel, by decide +kernel⟩
theorem mc_X10_rule : Cond.code yX10_rule cX10_rule 5 (some .int) ∈ tbG := tbG_of (List.mem_of_getElem? (i := 826) (by decide +kernel)) (by decide +kernel)
theorem md_X10_rule : Cond.code yX10_rule cX10_rule 5 (some .int) ∈ tbG ∧ Cond.instanceMethod yX10_rule ∈ tbG ∧ Cond.selects (yX10_rule).cls yX10_rule yX10_rule ∈ tbG ∧ Cond.initialized (yX10_rule).cls ∈ tbG ∧ plainName (yX10_rule).cls = true ∧ (yX10_rule).cls ≠ "java/lang/invoke/MethodHandle" ∧ (yX10_rule).cls ≠ "java/lang/invoke/VarHandle" ∧ (parseMethodDescriptor (yX10_rule).desc).map (fun d => d.parameters.length) = some 3 := ⟨mc_X10_rule, (tbG_of (List.mem_of_getElem? (i := 824) (by decide +kernel)) (by decide +kernel) : Cond.instanceMethod yX10_rule ∈ tbG), (tbG_of (List.mem_of_getElem? (i := 825) (by decide +kernel)) (by decide +kernel) : Cond.selects (yX10_rule).cls yX10_rule yX10_rule ∈ tbG), (tbG_of (List.mem_of_getElem? (i := 57) (by decide +kernel)) (by decide +kernel) : Cond.initialized (yX10_rule).cls ∈ tbG), by decide +kernel, by decide +kernel, by decide +kernel, by decide +kernel⟩
theorem mc_X10_seal : Cond.code yX10_seal cX10_seal 5 (some .int) ∈ tbG := tbG_of (List.mem_of_getElem? (i := 961) (by decide +kernel)) (by decide +kernel)
theorem md_X10_seal : Cond.code yX10_seal cX10_seal 5 (some .int) ∈ tbG ∧ Cond.instanceMethod yX10_seal ∈ tbG ∧ Cond.selects (yX10_seal).cls yX10_seal yX10_seal ∈ tbG ∧ Cond.initialized (yX10_seal).cls ∈ tbG ∧ plainName (yX10_seal).cls = true ∧ (yX10_seal).cls ≠ "java/lang/invoke/MethodHandle" ∧ (yX10_seal).cls ≠ "java/lang/invoke/VarHandle" ∧ (parseMethodDescriptor (yX10_seal).desc).map (fun d => d.parameters.length) = some 2 := ⟨mc_X10_seal, (tbG_of (List.mem_of_getElem? (i := 959) (by decide +kernel)) (by decide +kernel) : Cond.instanceMethod yX10_seal ∈ tbG), (tbG_of (List.mem_of_getElem? (i := 960) (by decide +kernel)) (by decide +kernel) : Cond.selects (yX10_seal).cls yX10_seal yX10_seal ∈ tbG), (tbG_of (List.mem_of_getElem? (i := 57) (by decide +kernel)) (by decide +kernel) : Cond.initialized (yX10_seal).cls ∈ tbG), by decide +kernel, by decide +kernel, by decide +kernel, by decide +kernel⟩
theorem mc_X10_sealHolds : Cond.code yX10_sealHolds cX10_sealHolds 4 (some .boolean) ∈ tbG := tbG_of (List.mem_of_getElem? (i := 977) (by decide +kernel)) (by decide +kernel)
theorem md_X10_sealHolds : Cond.code yX10_sealHolds cX10_sealHolds 4 (some .boolean) ∈ tbG ∧ Cond.instanceMethod yX10_sealHolds ∈ tbG ∧ Cond.selects (yX10_sealHolds).cls yX10_sealHolds yX10_sealHolds ∈ tbG ∧ Cond.initialized (yX10_sealHolds).cls ∈ tbG ∧ plainName (yX10_sealHolds).cls = true ∧ (yX10_sealHolds).cls ≠ "java/lang/invoke/MethodHandle" ∧ (yX10_sealHolds).cls ≠ "java/lang/invoke/VarHandle" ∧ (parseMethodDescriptor (yX10_sealHolds).desc).map (fun d => d.parameters.length) = some 1 := ⟨mc_X10_sealHolds, (tbG_of (List.mem_of_getElem? (i := 976) (by decide +kernel)) (by decide +kernel) : Cond.instanceMethod yX10_sealHolds ∈ tbG), (tbG_of (List.mem_of_getElem? (i := 40) (by decide +kernel)) (by decide +kernel) : Cond.selects (yX10_sealHolds).cls yX10_sealHolds yX10_sealHolds ∈ tbG), (tbG_of (List.mem_of_getElem? (i := 57) (by decide +kernel)) (by decide +kernel) : Cond.initialized (yX10_sealHolds).cls ∈ tbG), by decide +kernel, by decide +kernel, by decide +kernel, by decide +kernel⟩
theorem mc_X10_sealed : Cond.code yX10_sealed cX10_sealed 3 (some .int) ∈ tbG := tbG_of (List.mem_of_getElem? (i := 973) (by decide +kernel)) (by decide +kernel)
theorem md_X10_sealed : Cond.code yX10_sealed cX10_sealed 3 (some .int) ∈ tbG ∧ Cond.instanceMethod yX10_sealed ∈ tbG ∧ Cond.selects (yX10_sealed).cls yX10_sealed yX10_sealed ∈ tbG ∧ Cond.initialized (yX10_sealed).cls ∈ tbG ∧ plainName (yX10_sealed).cls = true ∧ (yX10_sealed).cls ≠ "java/lang/invoke/MethodHandle" ∧ (yX10_sealed).cls ≠ "java/lang/invoke/VarHandle" ∧ (parseMethodDescriptor (yX10_sealed).desc).map (fun d => d.parameters.length) = some 2 := ⟨mc_X10_sealed, (tbG_of (List.mem_of_getElem? (i := 971) (by decide +kernel)) (by decide +kernel) : Cond.instanceMethod yX10_sealed ∈ tbG), (tbG_of (List.mem_of_getElem? (i := 972) (by decide +kernel)) (by decide +kernel) : Cond.selects (yX10_sealed).cls yX10_sealed yX10_sealed ∈ tbG), (tbG_of (List.mem_of_getElem? (i := 57) (by decide +kernel)) (by decide +kernel) : Cond.initialized (yX10_sealed).cls ∈ tbG), by decide +kernel, by decide +kernel, by decide +kernel, by decide +kernel⟩
theorem mc_X10_shows : Cond.code yX10_shows cX10_shows 4 (some .boolean) ∈ tbG := tbG_of (List.mem_of_getElem? (i := 987) (by decide +kernel)) (by decide +kernel)
theorem md_X10_shows : Cond.code yX10_shows cX10_shows 4 (some .boolean) ∈ tbG ∧ Cond.instanceMethod yX10_shows ∈ tbG ∧ Cond.selects (yX10_shows).cls yX10_shows yX10_shows ∈ tbG ∧ Cond.initialized (yX10_shows).cls ∈ tbG ∧ plainName (yX10_shows).cls = true ∧ (yX10_shows).cls ≠ "java/lang/invoke/MethodHandle" ∧ (yX10_shows).cls ≠ "java/lang/invoke/VarHandle" ∧ (parseMethodDescriptor (yX10_shows).desc).map (fun d => d.parameters.length) = some 1 := ⟨mc_X10_shows, (tbG_of (List.mem_of_getElem? (i := 986) (by decide +kernel)) (by decide +kernel) : Cond.instanceMethod yX10_shows ∈ tbG), (tbG_of (List.mem_of_getElem? (i := 41) (by decide +kernel)) (by decide +kernel) : Cond.selects (yX10_shows).cls yX10_shows yX10_shows ∈ tbG), (tbG_of (List.mem_of_getElem? (i := 57) (by decide +kernel)) (by decide +kernel) : Cond.initialized (yX10_shows).cls ∈ tbG), by decide +kernel, by decide +kernel, by decide +kernel, by decide +kernel⟩
theorem mc_X10_status : Cond.code yX10_status cX10_status 3 (some .int) ∈ tbG := tbG_of (List.mem_of_getElem? (i := 929) (by decide +kernel)) (by decide +kernel)
theorem md_X10_status : Cond.code yX10_status cX10_status 3 (some .int) ∈ tbG ∧ Cond.instanceMethod yX10_status ∈ tbG ∧ Cond.selects (yX10_status).cls yX10_status yX10_status ∈ tbG ∧ Cond.initialized (yX10_status).cls ∈ tbG ∧ plainName (yX10_status).cls = true ∧ (yX10_status).cls ≠ "java/lang/invoke/MethodHandle" ∧ (yX10_status).cls ≠ "java/lang/invoke/VarHandle" ∧ (parseMethodDescriptor (yX10_status).desc).map (fun d => d.parameters.length) = some 2 := ⟨mc_X10_status, (tbG_of (List.mem_of_getElem? (i := 927) (by decide +kernel)) (by decide +kernel) : Cond.instanceMethod yX10_status ∈ tbG), (tbG_of (List.mem_of_getElem? (i := 928) (by decide +kernel)) (by decide +kernel) : Cond.selects (yX10_status).cls yX10_status yX10_status ∈ tbG), (tbG_of (List.mem_of_getElem? (i := 57) (by decide +kernel)) (by decide +kernel) : Cond.initialized (yX10_status).cls ∈ tbG), by decide +kernel, by decide +kernel, by decide +kernel, by decide +kernel⟩
theorem mc_X10_statusOf : Cond.code yX10_statusOf cX10_statusOf 4 (some .int) ∈ tbG := tbG_of (List.mem_of_getElem? (i := 933) (by decide +kernel)) (by decide +kernel)
theorem md_X10_statusOf : Cond.code yX10_statusOf cX10_statusOf 4 (some .int) ∈ tbG ∧ Cond.instanceMethod yX10_statusOf ∈ tbG ∧ Cond.selects (yX10_statusOf).cls yX10_statusOf yX10_statusOf ∈ tbG ∧ Cond.initialized (yX10_statusOf).cls ∈ tbG ∧ plainName (yX10_statusOf).cls = true ∧ (yX10_statusOf).cls ≠ "java/lang/invoke/MethodHandle" ∧ (yX10_statusOf).cls ≠ "java/lang/invoke/VarHandle" ∧ (parseMethodDescriptor (yX10_statusOf).desc).map (fun d => d.parameters.length) = some 1 := ⟨mc_X10_statusOf, (tbG_of (List.mem_of_getElem? (i := 932) (by decide +kernel)) (by decide +kernel) : Cond.instanceMethod yX10_statusOf ∈ tbG), (tbG_of (List.mem_of_getElem? (i := 37) (by decide +kernel)) (by decide +kernel) : Cond.selects (yX10_statusOf).cls yX10_statusOf yX10_statusOf ∈ tbG), (tbG_of (List.mem_of_getElem? (i := 57) (by decide +kernel)) (by decide +kernel) : Cond.initialized (yX10_statusOf).cls ∈ tbG), by decide +kernel, by decide +kernel, by decide +kernel, by decide +kernel⟩
theorem mc_X10_tell : Cond.code yX10_tell cX10_tell 4 (some .int) ∈ tbG := tbG_of (List.mem_of_getElem? (i := 1011) (by decide +kernel)) (by decide +kernel)
theorem md_X10_tell : Cond.code yX10_tell cX10_tell 4 (some .int) ∈ tbG ∧ Cond.instanceMethod yX10_tell ∈ tbG ∧ Cond.selects (yX10_tell).cls yX10_tell yX10_tell ∈ tbG ∧ Cond.initialized (yX10_tell).cls ∈ tbG ∧ plainName (yX10_tell).cls = true ∧ (yX10_tell).cls ≠ "java/lang/invoke/MethodHandle" ∧ (yX10_tell).cls ≠ "java/lang/invoke/VarHandle" ∧ (parseMethodDescriptor (yX10_tell).desc).map (fun d => d.parameters.length) = some 1 := ⟨mc_X10_tell, (tbG_of (List.mem_of_getElem? (i := 1009) (by decide +kernel)) (by decide +kernel) : Cond.instanceMethod yX10_tell ∈ tbG), (tbG_of (List.mem_of_getElem? (i := 1010) (by decide +kernel)) (by decide +kernel) : Cond.selects (yX10_tell).cls yX10_tell yX10_tell ∈ tbG), (tbG_of (List.mem_of_getElem? (i := 57) (by decide +kernel)) (by decide +kernel) : Cond.initialized (yX10_tell).cls ∈ tbG), by decide +kernel, by decide +kernel, by decide +kernel, by decide +kernel⟩
theorem mc_X10_told : Cond.code yX10_told cX10_told 4 (some .int) ∈ tbG := tbG_of (List.mem_of_getElem? (i := 1003) (by decide +kernel)) (by decide +kernel)
theorem md_X10_told : Cond.code yX10_told cX10_told 4 (some .int) ∈ tbG ∧ Cond.instanceMethod yX10_told ∈ tbG ∧ Cond.selects (yX10_told).cls yX10_told yX10_told ∈ tbG ∧ Cond.initialized (yX10_told).cls ∈ tbG ∧ plainName (yX10_told).cls = true ∧ (yX10_told).cls ≠ "java/lang/invoke/MethodHandle" ∧ (yX10_told).cls ≠ "java/lang/invoke/VarHandle" ∧ (parseMethodDescriptor (yX10_told).desc).map (fun d => d.parameters.length) = some 1 := ⟨mc_X10_told, (tbG_of (List.mem_of_getElem? (i := 1001) (by decide +kernel)) (by decide +kernel) : Cond.instanceMethod yX10_told ∈ tbG), (tbG_of (List.mem_of_getElem? (i := 1002) (by decide +kernel)) (by decide +kernel) : Cond.selects (yX10_told).cls yX10_told yX10_told ∈ tbG), (tbG_of (List.mem_of_getElem? (i := 57) (by decide +kernel)) (by decide +kernel) : Cond.initialized (yX10_told).cls ∈ tbG), by decide +kernel, by decide +kernel, by decide +kernel, by decide +kernel⟩
theorem mc_X10_trace : Cond.code yX10_trace cX10_trace 1 (some .int) ∈ tbG := tbG_of (List.mem_of_getElem? (i := 1023) (by decide +kernel)) (by decide +kernel)
theorem md_X10_trace : Cond.code yX10_trace cX10_trace 1 (some .int) ∈ tbG ∧ Cond.instanceMethod yX10_trace ∈ tbG ∧ Cond.selects (yX10_trace).cls yX10_trace yX10_trace ∈ tbG ∧ Cond.initialized (yX10_trace).cls ∈ tbG ∧ plainName (yX10_trace).cls = true ∧ (yX10_trace).cls ≠ "java/lang/invoke/MethodHandle" ∧ (yX10_trace).cls ≠ "java/lang/invoke/VarHandle" ∧ (parseMethodDescriptor (yX10_trace).desc).map (fun d => d.parameters.length) = some 0 := ⟨mc_X10_trace, (tbG_of (List.mem_of_getElem? (i := 1021) (by decide +kernel)) (by decide +kernel) : Cond.instanceMethod yX10_trace ∈ tbG), (tbG_of (List.mem_of_getElem? (i := 1022) (by decide +kernel)) (by decide +kernel) : Cond.selects (yX10_trace).cls yX10_trace yX10_trace ∈ tbG), (tbG_of (List.mem_of_getElem? (i := 57) (by decide +kernel)) (by decide +kernel) : Cond.initialized (yX10_trace).cls ∈ tbG), by decide +kernel, by decide +kernel, by decide +kernel, by decide +kernel⟩
theorem mc_X10_traced : Cond.code yX10_traced cX10_traced 2 none ∈ tbG := tbG_of (List.mem_of_getElem? (i := 1015) (by decide +kernel)) (by decide +kernel)
theorem md_X10_traced : Cond.code yX10_traced cX10_traced 2 none ∈ tbG ∧ Cond.instanceMethod yX10_traced ∈ tbG ∧ Cond.selects (yX10_traced).cls yX10_traced yX10_traced ∈ tbG ∧ Cond.initialized (yX10_traced).cls ∈ tbG ∧ plainName (yX10_traced).cls = true ∧ (yX10_traced).cls ≠ "java/lang/invoke/MethodHandle" ∧ (yX10_traced).cls ≠ "java/lang/invoke/VarHandle" ∧ (parseMethodDescriptor (yX10_traced).desc).map (fun d => d.parameters.length) = some 1 := ⟨mc_X10_traced, (tbG_of (List.mem_of_getElem? (i := 1014) (by decide +kernel)) (by decide +kernel) : Cond.instanceMethod yX10_traced ∈ tbG), (tbG_of (List.mem_of_getElem? (i := 44) (by decide +kernel)) (by decide +kernel) : Cond.selects (yX10_traced).cls yX10_traced yX10_traced ∈ tbG), (tbG_of (List.mem_of_getElem? (i := 57) (by decide +kernel)) (by decide +kernel) : Cond.initialized (yX10_traced).cls ∈ tbG), by decide +kernel, by decide +kernel, by decide +kernel, by decide +kernel⟩
theorem mc_X10_tried : Cond.code yX10_tried cX10_tried 1 (some .int) ∈ tbG := tbG_of (List.mem_of_getElem? (i := 999) (by decide +kernel)) (by decide +kernel)
theorem md_X10_tried : Cond.code yX10_tried cX10_tried 1 (some .int) ∈ tbG ∧ Cond.instanceMethod yX10_tried ∈ tbG ∧ Cond.selects (yX10_tried).cls yX10_tried yX10_tried ∈ tbG ∧ Cond.initialized (yX10_tried).cls ∈ tbG ∧ plainName (yX10_tried).cls = true ∧ (yX10_tried).cls ≠ "java/lang/invoke/MethodHandle" ∧ (yX10_tried).cls ≠ "java/lang/invoke/VarHandle" ∧ (parseMethodDescriptor (yX10_tried).desc).map (fun d => d.parameters.length) = some 0 := ⟨mc_X10_tried, (tbG_of (List.mem_of_getElem? (i := 997) (by decide +kernel)) (by decide +kernel) : Cond.instanceMethod yX10_tried ∈ tbG), (tbG_of (List.mem_of_getElem? (i := 998) (by decide +kernel)) (by decide +kernel) : Cond.selects (yX10_tried).cls yX10_tried yX10_tried ∈ tbG), (tbG_of (List.mem_of_getElem? (i := 57) (by decide +kernel)) (by decide +kernel) : Cond.initialized (yX10_tried).cls ∈ tbG), by decide +kernel, by decide +kernel, by decide +kernel, by decide +kernel⟩
theorem mc_X10_value : Cond.code yX10_value cX10_value 3 (some .int) ∈ tbG := tbG_of (List.mem_of_getElem? (i := 941) (by decide +kernel)) (by decide +kernel)
theorem md_X10_value : Cond.code yX10_value cX10_value 3 (some .int) ∈ tbG ∧ Cond.instanceMethod yX10_value ∈ tbG ∧ Cond.selects (yX10_value).cls yX10_value yX10_value ∈ tbG ∧ Cond.initialized (yX10_value).cls ∈ tbG ∧ plainName (yX10_value).cls = true ∧ (yX10_value).cls ≠ "java/lang/invoke/MethodHandle" ∧ (yX10_value).cls ≠ "java/lang/invoke/VarHandle" ∧ (parseMethodDescriptor (yX10_value).desc).map (fun d => d.parameters.length) = some 2 := ⟨mc_X10_value, (tbG_of (List.mem_of_getElem? (i := 939) (by decide +kernel)) (by decide +kernel) : Cond.instanceMethod yX10_value ∈ tbG), (tbG_of (List.mem_of_getElem? (i := 940) (by decide +kernel)) (by decide +kernel) : Cond.selects (yX10_value).cls yX10_value yX10_value ∈ tbG), (tbG_of (List.mem_of_getElem? (i := 57) (by decide +kernel)) (by decide +kernel) : Cond.initialized (yX10_value).cls ∈ tbG), by decide +kernel, by decide +kernel, by decide +kernel, by decide +kernel⟩
theorem mc_X10_work : Cond.code yX10_work cX10_work 3 none ∈ tbG := tbG_of (List.mem_of_getElem? (i := 908) (by decide +kernel)) (by decide +kernel)
theorem md_X10_work : Cond.code yX10_work cX10_work 3 none ∈ tbG ∧ Cond.instanceMethod yX10_work ∈ tbG ∧ Cond.selects (yX10_work).cls yX10_work yX10_work ∈ tbG ∧ Cond.initialized (yX10_work).cls ∈ tbG ∧ plainName (yX10_work).cls = true ∧ (yX10_work).cls ≠ "java/lang/invoke/MethodHandle" ∧ (yX10_work).cls ≠ "java/lang/invoke/VarHandle" ∧ (parseMethodDescriptor (yX10_work).desc).map (fun d => d.parameters.length) = some 1 := ⟨mc_X10_work, (tbG_of (List.mem_of_getElem? (i := 907) (by decide +kernel)) (by decide +kernel) : Cond.instanceMethod yX10_work ∈ tbG), (tbG_of (List.mem_of_getElem? (i := 35) (by decide +kernel)) (by decide +kernel) : Cond.selects (yX10_work).cls yX10_work yX10_work ∈ tbG), (tbG_of (List.mem_of_getElem? (i := 57) (by decide +kernel)) (by decide +kernel) : Cond.initialized (yX10_work).cls ∈ tbG), by decide +kernel, by decide +kernel, by decide +kernel, by decide +kernel⟩
theorem mc_X10_workAll : Cond.code yX10_workAll cX10_workAll 4 none ∈ tbG := tbG_of (List.mem_of_getElem? (i := 904) (by decide +kernel)) (by decide +kernel)
theorem md_X10_workAll : Cond.code yX10_workAll cX10_workAll 4 none ∈ tbG ∧ Cond.instanceMethod yX10_workAll ∈ tbG ∧ Cond.selects (yX10_workAll).cls yX10_workAll yX10_workAll ∈ tbG ∧ Cond.initialized (yX10_workAll).cls ∈ tbG ∧ plainName (yX10_workAll).cls = true ∧ (yX10_workAll).cls ≠ "java/lang/invoke/MethodHandle" ∧ (yX10_workAll).cls ≠ "java/lang/invoke/VarHandle" ∧ (parseMethodDescriptor (yX10_workAll).desc).map (fun d => d.parameters.length) = some 1 := ⟨mc_X10_workAll, (tbG_of (List.mem_of_getElem? (i := 903) (by decide +kernel)) (by decide +kernel) : Cond.instanceMethod yX10_workAll ∈ tbG), (tbG_of (List.mem_of_getElem? (i := 34) (by decide +kernel)) (by decide +kernel) : Cond.selects (yX10_workAll).cls yX10_workAll yX10_workAll ∈ tbG), (tbG_of (List.mem_of_getElem? (i := 57) (by decide +kernel)) (by decide +kernel) : Cond.initialized (yX10_workAll).cls ∈ tbG), by decide +kernel, by decide +kernel, by decide +kernel, by decide +kernel⟩
theorem mc_X1_begin : Cond.code yX1_begin cX1_begin 1 none ∈ tbG := tbG_of (List.mem_of_getElem? (i := 550) (by decide +kernel)) (by decide +kernel)
theorem md_X1_begin : Cond.code yX1_begin cX1_begin 1 none ∈ tbG ∧ Cond.instanceMethod yX1_begin ∈ tbG ∧ Cond.selects (yX1_begin).cls yX1_begin yX1_begin ∈ tbG ∧ Cond.initialized (yX1_begin).cls ∈ tbG ∧ plainName (yX1_begin).cls = true ∧ (yX1_begin).cls ≠ "java/lang/invoke/MethodHandle" ∧ (yX1_begin).cls ≠ "java/lang/invoke/VarHandle" ∧ (parseMethodDescriptor (yX1_begin).desc).map (fun d => d.parameters.length) = some 0 := ⟨mc_X1_begin, (tbG_of (List.mem_of_getElem? (i := 548) (by decide +kernel)) (by decide +kernel) : Cond.instanceMethod yX1_begin ∈ tbG), (tbG_of (List.mem_of_getElem? (i := 549) (by decide +kernel)) (by decide +kernel) : Cond.selects (yX1_begin).cls yX1_begin yX1_begin ∈ tbG), (tbG_of (List.mem_of_getElem? (i := 53) (by decide +kernel)) (by decide +kernel) : Cond.initialized (yX1_begin).cls ∈ tbG), by decide +kernel, by decide +kernel, by decide +kernel, by decide +kernel⟩
theorem mc_X1_joinOne : Cond.code yX1_joinOne cX1_joinOne 5 (some .int) ∈ tbG := tbG_of (List.mem_of_getElem? (i := 554) (by decide +kernel)) (by decide +kernel)
theorem md_X1_joinOne : Cond.code yX1_joinOne cX1_joinOne 5 (some .int) ∈ tbG ∧ Cond.instanceMethod yX1_joinOne ∈ tbG ∧ Cond.selects (yX1_joinOne).cls yX1_joinOne yX1_joinOne ∈ tbG ∧ Cond.initialized (yX1_joinOne).cls ∈ tbG ∧ plainName (yX1_joinOne).cls = true ∧ (yX1_joinOne).cls ≠ "java/lang/invoke/MethodHandle" ∧ (yX1_joinOne).cls ≠ "java/lang/invoke/VarHandle" ∧ (parseMethodDescriptor (yX1_joinOne).desc).map (fun d => d.parameters.length) = some 4 := ⟨mc_X1_joinOne, (tbG_of (List.mem_of_getElem? (i := 552) (by decide +kernel)) (by decide +kernel) : Cond.instanceMethod yX1_joinOne ∈ tbG), (tbG_of (List.mem_of_getElem? (i := 553) (by decide +kernel)) (by decide +kernel) : Cond.selects (yX1_joinOne).cls yX1_joinOne yX1_joinOne ∈ tbG), (tbG_of (List.mem_of_getElem? (i := 53) (by decide +kernel)) (by decide +kernel) : Cond.initialized (yX1_joinOne).cls ∈ tbG), by decide +kernel, by decide +kernel, by decide +kernel, by decide +kernel⟩
theorem mc_X2_addStep : Cond.code yX2_addStep cX2_addStep 3 none ∈ tbG := tbG_of (List.mem_of_getElem? (i := 365) (by decide +kernel)) (by decide +kernel)
theorem md_X2_addStep : Cond.code yX2_addStep cX2_addStep 3 none ∈ tbG ∧ Cond.instanceMethod yX2_addStep ∈ tbG ∧ Cond.selects (yX2_addStep).cls yX2_addStep yX2_addStep ∈ tbG ∧ Cond.initialized (yX2_addStep).cls ∈ tbG ∧ plainName (yX2_addStep).cls = true ∧ (yX2_addStep).cls ≠ "java/lang/invoke/MethodHandle" ∧ (yX2_addStep).cls ≠ "java/lang/invoke/VarHandle" ∧ (parseMethodDescriptor (yX2_addStep).desc).map (fun d => d.parameters.length) = some 2 := ⟨mc_X2_addStep, (tbG_of (List.mem_of_getElem? (i := 364) (by decide +kernel)) (by decide +kernel) : Cond.instanceMethod yX2_addStep ∈ tbG), (tbG_of (List.mem_of_getElem? (i := 0) (by decide +kernel)) (by decide +kernel) : Cond.selects (yX2_addStep).cls yX2_addStep yX2_addStep ∈ tbG), (tbG_of (List.mem_of_getElem? (i := 47) (by decide +kernel)) (by decide +kernel) : Cond.initialized (yX2_addStep).cls ∈ tbG), by decide +kernel, by decide +kernel, by decide +kernel, by decide +kernel⟩
theorem mc_X2_arrange : Cond.code yX2_arrange cX2_arrange 3 none ∈ tbG := tbG_of (List.mem_of_getElem? (i := 348) (by decide +kernel)) (by decide +kernel)
theorem md_X2_arrange : Cond.code yX2_arrange cX2_arrange 3 none ∈ tbG ∧ Cond.instanceMethod yX2_arrange ∈ tbG ∧ Cond.selects (yX2_arrange).cls yX2_arrange yX2_arrange ∈ tbG ∧ Cond.initialized (yX2_arrange).cls ∈ tbG ∧ plainName (yX2_arrange).cls = true ∧ (yX2_arrange).cls ≠ "java/lang/invoke/MethodHandle" ∧ (yX2_arrange).cls ≠ "java/lang/invoke/VarHandle" ∧ (parseMethodDescriptor (yX2_arrange).desc).map (fun d => d.parameters.length) = some 0 := ⟨mc_X2_arrange, (tbG_of (List.mem_of_getElem? (i := 346) (by decide +kernel)) (by decide +kernel) : Cond.instanceMethod yX2_arrange ∈ tbG), (tbG_of (List.mem_of_getElem? (i := 347) (by decide +kernel)) (by decide +kernel) : Cond.selects (yX2_arrange).cls yX2_arrange yX2_arrange ∈ tbG), (tbG_of (List.mem_of_getElem? (i := 47) (by decide +kernel)) (by decide +kernel) : Cond.initialized (yX2_arrange).cls ∈ tbG), by decide +kernel, by decide +kernel, by decide +kernel, by decide +kernel⟩
theorem mc_X2_directWith : Cond.code yX2_directWith cX2_directWith 6 (some .int) ∈ tbG := tbG_of (List.mem_of_getElem? (i := 399) (by decide +kernel)) (by decide +kernel)
theorem md_X2_directWith : Cond.code yX2_directWith cX2_directWith 6 (some .int) ∈ tbG ∧ Cond.instanceMethod yX2_directWith ∈ tbG ∧ Cond.selects (yX2_directWith).cls yX2_directWith yX2_directWith ∈ tbG ∧ Cond.initialized (yX2_directWith).cls ∈ tbG ∧ plainName (yX2_directWith).cls = true ∧ (yX2_directWith).cls ≠ "java/lang/invoke/MethodHandle" ∧ (yX2_directWith).cls ≠ "java/lang/invoke/VarHandle" ∧ (parseMethodDescriptor (yX2_directWith).desc).map (fun d => d.parameters.length) = some 3 := ⟨mc_X2_directWith, (tbG_of (List.mem_of_getElem? (i := 397) (by decide +kernel)) (by decide +kernel) : Cond.instanceMethod yX2_directWith ∈ tbG), (tbG_of (List.mem_of_getElem? (i := 398) (by decide +kernel)) (by decide +kernel) : Cond.selects (yX2_directWith).cls yX2_directWith yX2_directWith ∈ tbG), (tbG_of (List.mem_of_getElem? (i := 47) (by decide +kernel)) (by decide +kernel) : Cond.initialized (yX2_directWith).cls ∈ tbG), by decide +kernel, by decide +kernel, by decide +kernel, by decide +kernel⟩
theorem mc_X2_setRule : Cond.code yX2_setRule cX2_setRule 4 none ∈ tbG := tbG_of (List.mem_of_getElem? (i := 418) (by decide +kernel)) (by decide +kernel)
theorem md_X2_setRule : Cond.code yX2_setRule cX2_setRule 4 none ∈ tbG ∧ Cond.instanceMethod yX2_setRule ∈ tbG ∧ Cond.selects (yX2_setRule).cls yX2_setRule yX2_setRule ∈ tbG ∧ Cond.initialized (yX2_setRule).cls ∈ tbG ∧ plainName (yX2_setRule).cls = true ∧ (yX2_setRule).cls ≠ "java/lang/invoke/MethodHandle" ∧ (yX2_setRule).cls ≠ "java/lang/invoke/VarHandle" ∧ (parseMethodDescriptor (yX2_setRule).desc).map (fun d => d.parameters.length) = some 3 := ⟨mc_X2_setRule, (tbG_of (List.mem_of_getElem? (i := 416) (by decide +kernel)) (by decide +kernel) : Cond.instanceMethod yX2_setRule ∈ tbG), (tbG_of (List.mem_of_getElem? (i := 417) (by decide +kernel)) (by decide +kernel) : Cond.selects (yX2_setRule).cls yX2_setRule yX2_setRule ∈ tbG), (tbG_of (List.mem_of_getElem? (i := 47) (by decide +kernel)) (by decide +kernel) : Cond.initialized (yX2_setRule).cls ∈ tbG), by decide +kernel, by decide +kernel, by decide +kernel, by decide +kernel⟩
theorem mc_X3_add : Cond.code yX3_add cX3_add 5 (some .int) ∈ tbG := tbG_of (List.mem_of_getElem? (i := 387) (by decide +kernel)) (by decide +kernel)
theorem md_X3_add : Cond.code yX3_add cX3_add 5 (some .int) ∈ tbG ∧ Cond.instanceMethod yX3_add ∈ tbG ∧ Cond.selects (yX3_add).cls yX3_add yX3_add ∈ tbG ∧ Cond.initialized (yX3_add).cls ∈ tbG ∧ plainName (yX3_add).cls = true ∧ (yX3_add).cls ≠ "java/lang/invoke/MethodHandle" ∧ (yX3_add).cls ≠ "java/lang/invoke/VarHandle" ∧ (parseMethodDescriptor (yX3_add).desc).map (fun d => d.parameters.length) = some 4 := ⟨mc_X3_add, (tbG_of (List.mem_of_getElem? (i := 385) (by decide +kernel)) (by decide +kernel) : Cond.instanceMethod yX3_add ∈ tbG), (tbG_of (List.mem_of_getElem? (i := 386) (by decide +kernel)) (by decide +kernel) : Cond.selects (yX3_add).cls yX3_add yX3_add ∈ tbG), (tbG_of (List.mem_of_getElem? (i := 49) (by decide +kernel)) (by decide +kernel) : Cond.initialized (yX3_add).cls ∈ tbG), by decide +kernel, by decide +kernel, by decide +kernel, by decide +kernel⟩
theorem mc_X3_answersOfRule : Cond.code yX3_answersOfRule cX3_answersOfRule 2 (some .int) ∈ tbG := tbG_of (List.mem_of_getElem? (i := 403) (by decide +kernel)) (by decide +kernel)
theorem md_X3_answersOfRule : Cond.code yX3_answersOfRule cX3_answersOfRule 2 (some .int) ∈ tbG ∧ Cond.instanceMethod yX3_answersOfRule ∈ tbG ∧ Cond.selects (yX3_answersOfRule).cls yX3_answersOfRule yX3_answersOfRule ∈ tbG ∧ Cond.initialized (yX3_answersOfRule).cls ∈ tbG ∧ plainName (yX3_answersOfRule).cls = true ∧ (yX3_answersOfRule).cls ≠ "java/lang/invoke/MethodHandle" ∧ (yX3_answersOfRule).cls ≠ "java/lang/invoke/VarHandle" ∧ (parseMethodDescriptor (yX3_answersOfRule).desc).map (fun d => d.parameters.length) = some 1 := ⟨mc_X3_answersOfRule, (tbG_of (List.mem_of_getElem? (i := 401) (by decide +kernel)) (by decide +kernel) : Cond.instanceMethod yX3_answersOfRule ∈ tbG), (tbG_of (List.mem_of_getElem? (i := 402) (by decide +kernel)) (by decide +kernel) : Cond.selects (yX3_answersOfRule).cls yX3_answersOfRule yX3_answersOfRule ∈ tbG), (tbG_of (List.mem_of_getElem? (i := 49) (by decide +kernel)) (by decide +kernel) : Cond.initialized (yX3_answersOfRule).cls ∈ tbG), by decide +kernel, by decide +kernel, by decide +kernel, by decide +kernel⟩
theorem mc_X3_gatherAnswers : Cond.code yX3_gatherAnswers cX3_gatherAnswers 2 (some .int) ∈ tbG := tbG_of (List.mem_of_getElem? (i := 391) (by decide +kernel)) (by decide +kernel)
theorem md_X3_gatherAnswers : Cond.code yX3_gatherAnswers cX3_gatherAnswers 2 (some .int) ∈ tbG ∧ Cond.instanceMethod yX3_gatherAnswers ∈ tbG ∧ Cond.selects (yX3_gatherAnswers).cls yX3_gatherAnswers yX3_gatherAnswers ∈ tbG ∧ Cond.initialized (yX3_gatherAnswers).cls ∈ tbG ∧ plainName (yX3_gatherAnswers).cls = true ∧ (yX3_gatherAnswers).cls ≠ "java/lang/invoke/MethodHandle" ∧ (yX3_gatherAnswers).cls ≠ "java/lang/invoke/VarHandle" ∧ (parseMethodDescriptor (yX3_gatherAnswers).desc).map (fun d => d.parameters.length) = some 1 := ⟨mc_X3_gatherAnswers, (tbG_of (List.mem_of_getElem? (i := 390) (by decide +kernel)) (by decide +kernel) : Cond.instanceMethod yX3_gatherAnswers ∈ tbG), (tbG_of (List.mem_of_getElem? (i := 2) (by decide +kernel)) (by decide +kernel) : Cond.selects (yX3_gatherAnswers).cls yX3_gatherAnswers yX3_gatherAnswers ∈ tbG), (tbG_of (List.mem_of_getElem? (i := 49) (by decide +kernel)) (by decide +kernel) : Cond.initialized (yX3_gatherAnswers).cls ∈ tbG), by decide +kernel, by decide +kernel, by decide +kernel, by decide +kernel⟩
theorem mc_X3_has : Cond.code yX3_has cX3_has 2 (some .boolean) ∈ tbG := tbG_of (List.mem_of_getElem? (i := 381) (by decide +kernel)) (by decide +kernel)
theorem md_X3_has : Cond.code yX3_has cX3_has 2 (some .boolean) ∈ tbG ∧ Cond.instanceMethod yX3_has ∈ tbG ∧ Cond.selects (yX3_has).cls yX3_has yX3_has ∈ tbG ∧ Cond.initialized (yX3_has).cls ∈ tbG ∧ plainName (yX3_has).cls = true ∧ (yX3_has).cls ≠ "java/lang/invoke/MethodHandle" ∧ (yX3_has).cls ≠ "java/lang/invoke/VarHandle" ∧ (parseMethodDescriptor (yX3_has).desc).map (fun d => d.parameters.length) = some 1 := ⟨mc_X3_has, (tbG_of (List.mem_of_getElem? (i := 379) (by decide +kernel)) (by decide +kernel) : Cond.instanceMethod yX3_has ∈ tbG), (tbG_of (List.mem_of_getElem? (i := 380) (by decide +kernel)) (by decide +kernel) : Cond.selects (yX3_has).cls yX3_has yX3_has ∈ tbG), (tbG_of (List.mem_of_getElem? (i := 49) (by decide +kernel)) (by decide +kernel) : Cond.initialized (yX3_has).cls ∈ tbG), by decide +kernel, by decide +kernel, by decide +kernel, by decide +kernel⟩
theorem mc_X4_follow : Cond.code yX4_follow cX4_follow 6 none ∈ tbG := tbG_of (List.mem_of_getElem? (i := 409) (by decide +kernel)) (by decide +kernel)
theorem md_X4_follow : Cond.code yX4_follow cX4_follow 6 none ∈ tbG ∧ Cond.instanceMethod yX4_follow ∈ tbG ∧ Cond.selects (yX4_follow).cls yX4_follow yX4_follow ∈ tbG ∧ Cond.initialized (yX4_follow).cls ∈ tbG ∧ plainName (yX4_follow).cls = true ∧ (yX4_follow).cls ≠ "java/lang/invoke/MethodHandle" ∧ (yX4_follow).cls ≠ "java/lang/invoke/VarHandle" ∧ (parseMethodDescriptor (yX4_follow).desc).map (fun d => d.parameters.length) = some 3 := ⟨mc_X4_follow, (tbG_of (List.mem_of_getElem? (i := 407) (by decide +kernel)) (by decide +kernel) : Cond.instanceMethod yX4_follow ∈ tbG), (tbG_of (List.mem_of_getElem? (i := 408) (by decide +kernel)) (by decide +kernel) : Cond.selects (yX4_follow).cls yX4_follow yX4_follow ∈ tbG), (tbG_of (List.mem_of_getElem? (i := 50) (by decide +kernel)) (by decide +kernel) : Cond.initialized (yX4_follow).cls ∈ tbG), by decide +kernel, by decide +kernel, by decide +kernel, by decide +kernel⟩
theorem mc_X5_add : Cond.code yX5_add cX5_add 8 (some .int) ∈ tbG := tbG_of (List.mem_of_getElem? (i := 566) (by decide +kernel)) (by decide +kernel)
theorem md_X5_add : Cond.code yX5_add cX5_add 8 (some .int) ∈ tbG ∧ Cond.instanceMethod yX5_add ∈ tbG ∧ Cond.selects (yX5_add).cls yX5_add yX5_add ∈ tbG ∧ Cond.initialized (yX5_add).cls ∈ tbG ∧ plainName (yX5_add).cls = true ∧ (yX5_add).cls ≠ "java/lang/invoke/MethodHandle" ∧ (yX5_add).cls ≠ "java/lang/invoke/VarHandle" ∧ (parseMethodDescriptor (yX5_add).desc).map (fun d => d.parameters.length) = some 5 := ⟨mc_X5_add, (tbG_of (List.mem_of_getElem? (i := 564) (by decide +kernel)) (by decide +kernel) : Cond.instanceMethod yX5_add ∈ tbG), (tbG_of (List.mem_of_getElem? (i := 565) (by decide +kernel)) (by decide +kernel) : Cond.selects (yX5_add).cls yX5_add yX5_add ∈ tbG), (tbG_of (List.mem_of_getElem? (i := 54) (by decide +kernel)) (by decide +kernel) : Cond.initialized (yX5_add).cls ∈ tbG), by decide +kernel, by decide +kernel, by decide +kernel, by decide +kernel⟩
theorem mc_X5_agrees : Cond.code yX5_agrees cX5_agrees 5 (some .boolean) ∈ tbG := tbG_of (List.mem_of_getElem? (i := 589) (by decide +kernel)) (by decide +kernel)
theorem md_X5_agrees : Cond.code yX5_agrees cX5_agrees 5 (some .boolean) ∈ tbG ∧ Cond.instanceMethod yX5_agrees ∈ tbG ∧ Cond.selects (yX5_agrees).cls yX5_agrees yX5_agrees ∈ tbG ∧ Cond.initialized (yX5_agrees).cls ∈ tbG ∧ plainName (yX5_agrees).cls = true ∧ (yX5_agrees).cls ≠ "java/lang/invoke/MethodHandle" ∧ (yX5_agrees).cls ≠ "java/lang/invoke/VarHandle" ∧ (parseMethodDescriptor (yX5_agrees).desc).map (fun d => d.parameters.length) = some 3 := ⟨mc_X5_agrees, (tbG_of (List.mem_of_getElem? (i := 587) (by decide +kernel)) (by decide +kernel) : Cond.instanceMethod yX5_agrees ∈ tbG), (tbG_of (List.mem_of_getElem? (i := 588) (by decide +kernel)) (by decide +kernel) : Cond.selects (yX5_agrees).cls yX5_agrees yX5_agrees ∈ tbG), (tbG_of (List.mem_of_getElem? (i := 54) (by decide +kernel)) (by decide +kernel) : Cond.initialized (yX5_agrees).cls ∈ tbG), by decide +kernel, by decide +kernel, by decide +kernel, by decide +kernel⟩
theorem mc_X5_has : Cond.code yX5_has cX5_has 2 (some .boolean) ∈ tbG := tbG_of (List.mem_of_getElem? (i := 577) (by decide +kernel)) (by decide +kernel)
theorem md_X5_has : Cond.code yX5_has cX5_has 2 (some .boolean) ∈ tbG ∧ Cond.instanceMethod yX5_has ∈ tbG ∧ Cond.selects (yX5_has).cls yX5_has yX5_has ∈ tbG ∧ Cond.initialized (yX5_has).cls ∈ tbG ∧ plainName (yX5_has).cls = true ∧ (yX5_has).cls ≠ "java/lang/invoke/MethodHandle" ∧ (yX5_has).cls ≠ "java/lang/invoke/VarHandle" ∧ (parseMethodDescriptor (yX5_has).desc).map (fun d => d.parameters.length) = some 1 := ⟨mc_X5_has, (tbG_of (List.mem_of_getElem? (i := 575) (by decide +kernel)) (by decide +kernel) : Cond.instanceMethod yX5_has ∈ tbG), (tbG_of (List.mem_of_getElem? (i := 576) (by decide +kernel)) (by decide +kernel) : Cond.selects (yX5_has).cls yX5_has yX5_has ∈ tbG), (tbG_of (List.mem_of_getElem? (i := 54) (by decide +kernel)) (by decide +kernel) : Cond.initialized (yX5_has).cls ∈ tbG), by decide +kernel, by decide +kernel, by decide +kernel, by decide +kernel⟩
theorem mc_X5_unbrokenBits : Cond.code yX5_unbrokenBits cX5_unbrokenBits 4 (some .int) ∈ tbG := tbG_of (List.mem_of_getElem? (i := 469) (by decide +kernel)) (by decide +kernel)
theorem md_X5_unbrokenBits : Cond.code yX5_unbrokenBits cX5_unbrokenBits 4 (some .int) ∈ tbG ∧ Cond.instanceMethod yX5_unbrokenBits ∈ tbG ∧ Cond.selects (yX5_unbrokenBits).cls yX5_unbrokenBits yX5_unbrokenBits ∈ tbG ∧ Cond.initialized (yX5_unbrokenBits).cls ∈ tbG ∧ plainName (yX5_unbrokenBits).cls = true ∧ (yX5_unbrokenBits).cls ≠ "java/lang/invoke/MethodHandle" ∧ (yX5_unbrokenBits).cls ≠ "java/lang/invoke/VarHandle" ∧ (parseMethodDescriptor (yX5_unbrokenBits).desc).map (fun d => d.parameters.length) = some 1 := ⟨mc_X5_unbrokenBits, (tbG_of (List.mem_of_getElem? (i := 467) (by decide +kernel)) (by decide +kernel) : Cond.instanceMethod yX5_unbrokenBits ∈ tbG), (tbG_of (List.mem_of_getElem? (i := 468) (by decide +kernel)) (by decide +kernel) : Cond.selects (yX5_unbrokenBits).cls yX5_unbrokenBits yX5_unbrokenBits ∈ tbG), (tbG_of (List.mem_of_getElem? (i := 54) (by decide +kernel)) (by decide +kernel) : Cond.initialized (yX5_unbrokenBits).cls ∈ tbG), by decide +kernel, by decide +kernel, by decide +kernel, by decide +kernel⟩
theorem mc_X6_cut : Cond.code yX6_cut cX6_cut 2 (some .int) ∈ tbG := tbG_of (List.mem_of_getElem? (i := 504) (by decide +kernel)) (by decide +kernel)
theorem md_X6_cut : Cond.code yX6_cut cX6_cut 2 (some .int) ∈ tbG ∧ Cond.static yX6_cut ∈ tbG ∧ Cond.initialized (yX6_cut).cls ∈ tbG ∧ plainName (yX6_cut).cls = true ∧ (yX6_cut).cls ≠ "java/lang/invoke/MethodHandle" ∧ (yX6_cut).cls ≠ "java/lang/invoke/VarHandle" ∧ (parseMethodDescriptor (yX6_cut).desc).map (fun d => d.parameters.length) = some 1 := ⟨mc_X6_cut, (tbG_of (List.mem_of_getElem? (i := 503) (by decide +kernel)) (by decide +kernel) : Cond.static yX6_cut ∈ tbG), (tbG_of (List.mem_of_getElem? (i := 52) (by decide +kernel)) (by decide +kernel) : Cond.initialized (yX6_cut).cls ∈ tbG), by decide +kernel, by decide +kernel, by decide +kernel, by decide +kernel⟩
theorem mc_X6_look : Cond.code yX6_look cX6_look 4 none ∈ tbG := tbG_of (List.mem_of_getElem? (i := 485) (by decide +kernel)) (by decide +kernel)
theorem md_X6_look : Cond.code yX6_look cX6_look 4 none ∈ tbG ∧ Cond.instanceMethod yX6_look ∈ tbG ∧ Cond.selects (yX6_look).cls yX6_look yX6_look ∈ tbG ∧ Cond.initialized (yX6_look).cls ∈ tbG ∧ plainName (yX6_look).cls = true ∧ (yX6_look).cls ≠ "java/lang/invoke/MethodHandle" ∧ (yX6_look).cls ≠ "java/lang/invoke/VarHandle" ∧ (parseMethodDescriptor (yX6_look).desc).map (fun d => d.parameters.length) = some 2 := ⟨mc_X6_look, (tbG_of (List.mem_of_getElem? (i := 483) (by decide +kernel)) (by decide +kernel) : Cond.instanceMethod yX6_look ∈ tbG), (tbG_of (List.mem_of_getElem? (i := 484) (by decide +kernel)) (by decide +kernel) : Cond.selects (yX6_look).cls yX6_look yX6_look ∈ tbG), (tbG_of (List.mem_of_getElem? (i := 52) (by decide +kernel)) (by decide +kernel) : Cond.initialized (yX6_look).cls ∈ tbG), by decide +kernel, by decide +kernel, by decide +kernel, by decide +kernel⟩
theorem mc_X6_lookAgain : Cond.code yX6_lookAgain cX6_lookAgain 5 none ∈ tbG := tbG_of (List.mem_of_getElem? (i := 615) (by decide +kernel)) (by decide +kernel)
theorem md_X6_lookAgain : Cond.code yX6_lookAgain cX6_lookAgain 5 none ∈ tbG ∧ Cond.instanceMethod yX6_lookAgain ∈ tbG ∧ Cond.selects (yX6_lookAgain).cls yX6_lookAgain yX6_lookAgain ∈ tbG ∧ Cond.initialized (yX6_lookAgain).cls ∈ tbG ∧ plainName (yX6_lookAgain).cls = true ∧ (yX6_lookAgain).cls ≠ "java/lang/invoke/MethodHandle" ∧ (yX6_lookAgain).cls ≠ "java/lang/invoke/VarHandle" ∧ (parseMethodDescriptor (yX6_lookAgain).desc).map (fun d => d.parameters.length) = some 3 := ⟨mc_X6_lookAgain, (tbG_of (List.mem_of_getElem? (i := 613) (by decide +kernel)) (by decide +kernel) : Cond.instanceMethod yX6_lookAgain ∈ tbG), (tbG_of (List.mem_of_getElem? (i := 614) (by decide +kernel)) (by decide +kernel) : Cond.selects (yX6_lookAgain).cls yX6_lookAgain yX6_lookAgain ∈ tbG), (tbG_of (List.mem_of_getElem? (i := 52) (by decide +kernel)) (by decide +kernel) : Cond.initialized (yX6_lookAgain).cls ∈ tbG), by decide +kernel, by decide +kernel, by decide +kernel, by decide +kernel⟩
theorem mc_X6_statusOf : Cond.code yX6_statusOf cX6_statusOf 3 (some .int) ∈ tbG := tbG_of (List.mem_of_getElem? (i := 530) (by decide +kernel)) (by decide +kernel)
theorem md_X6_statusOf : Cond.code yX6_statusOf cX6_statusOf 3 (some .int) ∈ tbG ∧ Cond.instanceMethod yX6_statusOf ∈ tbG ∧ Cond.selects (yX6_statusOf).cls yX6_statusOf yX6_statusOf ∈ tbG ∧ Cond.initialized (yX6_statusOf).cls ∈ tbG ∧ plainName (yX6_statusOf).cls = true ∧ (yX6_statusOf).cls ≠ "java/lang/invoke/MethodHandle" ∧ (yX6_statusOf).cls ≠ "java/lang/invoke/VarHandle" ∧ (parseMethodDescriptor (yX6_statusOf).desc).map (fun d => d.parameters.length) = some 2 := ⟨mc_X6_statusOf, (tbG_of (List.mem_of_getElem? (i := 528) (by decide +kernel)) (by decide +kernel) : Cond.instanceMethod yX6_statusOf ∈ tbG), (tbG_of (List.mem_of_getElem? (i := 529) (by decide +kernel)) (by decide +kernel) : Cond.selects (yX6_statusOf).cls yX6_statusOf yX6_statusOf ∈ tbG), (tbG_of (List.mem_of_getElem? (i := 52) (by decide +kernel)) (by decide +kernel) : Cond.initialized (yX6_statusOf).cls ∈ tbG), by decide +kernel, by decide +kernel, by decide +kernel, by decide +kernel⟩
theorem mc_X6_takeField : Cond.code yX6_takeField cX6_takeField 6 none ∈ tbG := tbG_of (List.mem_of_getElem? (i := 512) (by decide +kernel)) (by decide +kernel)
theorem md_X6_takeField : Cond.code yX6_takeField cX6_takeField 6 none ∈ tbG ∧ Cond.instanceMethod yX6_takeField ∈ tbG ∧ Cond.selects (yX6_takeField).cls yX6_takeField yX6_takeField ∈ tbG ∧ Cond.initialized (yX6_takeField).cls ∈ tbG ∧ plainName (yX6_takeField).cls = true ∧ (yX6_takeField).cls ≠ "java/lang/invoke/MethodHandle" ∧ (yX6_takeField).cls ≠ "java/lang/invoke/VarHandle" ∧ (parseMethodDescriptor (yX6_takeField).desc).map (fun d => d.parameters.length) = some 3 := ⟨mc_X6_takeField, (tbG_of (List.mem_of_getElem? (i := 511) (by decide +kernel)) (by decide +kernel) : Cond.instanceMethod yX6_takeField ∈ tbG), (tbG_of (List.mem_of_getElem? (i := 8) (by decide +kernel)) (by decide +kernel) : Cond.selects (yX6_takeField).cls yX6_takeField yX6_takeField ∈ tbG), (tbG_of (List.mem_of_getElem? (i := 52) (by decide +kernel)) (by decide +kernel) : Cond.initialized (yX6_takeField).cls ∈ tbG), by decide +kernel, by decide +kernel, by decide +kernel, by decide +kernel⟩
theorem mc_X6_takeStep : Cond.code yX6_takeStep cX6_takeStep 4 none ∈ tbG := tbG_of (List.mem_of_getElem? (i := 489) (by decide +kernel)) (by decide +kernel)
theorem md_X6_takeStep : Cond.code yX6_takeStep cX6_takeStep 4 none ∈ tbG ∧ Cond.instanceMethod yX6_takeStep ∈ tbG ∧ Cond.selects (yX6_takeStep).cls yX6_takeStep yX6_takeStep ∈ tbG ∧ Cond.initialized (yX6_takeStep).cls ∈ tbG ∧ plainName (yX6_takeStep).cls = true ∧ (yX6_takeStep).cls ≠ "java/lang/invoke/MethodHandle" ∧ (yX6_takeStep).cls ≠ "java/lang/invoke/VarHandle" ∧ (parseMethodDescriptor (yX6_takeStep).desc).map (fun d => d.parameters.length) = some 3 := ⟨mc_X6_takeStep, (tbG_of (List.mem_of_getElem? (i := 488) (by decide +kernel)) (by decide +kernel) : Cond.instanceMethod yX6_takeStep ∈ tbG), (tbG_of (List.mem_of_getElem? (i := 6) (by decide +kernel)) (by decide +kernel) : Cond.selects (yX6_takeStep).cls yX6_takeStep yX6_takeStep ∈ tbG), (tbG_of (List.mem_of_getElem? (i := 52) (by decide +kernel)) (by decide +kernel) : Cond.initialized (yX6_takeStep).cls ∈ tbG), by decide +kernel, by decide +kernel, by decide +kernel, by decide +kernel⟩
theorem mc_X6_valueOf : Cond.code yX6_valueOf cX6_valueOf 2 (some .int) ∈ tbG := tbG_of (List.mem_of_getElem? (i := 516) (by decide +kernel)) (by decide +kernel)
theorem md_X6_valueOf : Cond.code yX6_valueOf cX6_valueOf 2 (some .int) ∈ tbG ∧ Cond.instanceMethod yX6_valueOf ∈ tbG ∧ Cond.selects (yX6_valueOf).cls yX6_valueOf yX6_valueOf ∈ tbG ∧ Cond.initialized (yX6_valueOf).cls ∈ tbG ∧ plainName (yX6_valueOf).cls = true ∧ (yX6_valueOf).cls ≠ "java/lang/invoke/MethodHandle" ∧ (yX6_valueOf).cls ≠ "java/lang/invoke/VarHandle" ∧ (parseMethodDescriptor (yX6_valueOf).desc).map (fun d => d.parameters.length) = some 1 := ⟨mc_X6_valueOf, (tbG_of (List.mem_of_getElem? (i := 514) (by decide +kernel)) (by decide +kernel) : Cond.instanceMethod yX6_valueOf ∈ tbG), (tbG_of (List.mem_of_getElem? (i := 515) (by decide +kernel)) (by decide +kernel) : Cond.selects (yX6_valueOf).cls yX6_valueOf yX6_valueOf ∈ tbG), (tbG_of (List.mem_of_getElem? (i := 52) (by decide +kernel)) (by decide +kernel) : Cond.initialized (yX6_valueOf).cls ∈ tbG), by decide +kernel, by decide +kernel, by decide +kernel, by decide +kernel⟩
theorem mc_X6_workOut : Cond.code yX6_workOut cX6_workOut 4 (some .int) ∈ tbG := tbG_of (List.mem_of_getElem? (i := 493) (by decide +kernel)) (by decide +kernel)
theorem md_X6_workOut : Cond.code yX6_workOut cX6_workOut 4 (some .int) ∈ tbG ∧ Cond.instanceMethod yX6_workOut ∈ tbG ∧ Cond.selects (yX6_workOut).cls yX6_workOut yX6_workOut ∈ tbG ∧ Cond.initialized (yX6_workOut).cls ∈ tbG ∧ plainName (yX6_workOut).cls = true ∧ (yX6_workOut).cls ≠ "java/lang/invoke/MethodHandle" ∧ (yX6_workOut).cls ≠ "java/lang/invoke/VarHandle" ∧ (parseMethodDescriptor (yX6_workOut).desc).map (fun d => d.parameters.length) = some 2 := ⟨mc_X6_workOut, (tbG_of (List.mem_of_getElem? (i := 492) (by decide +kernel)) (by decide +kernel) : Cond.instanceMethod yX6_workOut ∈ tbG), (tbG_of (List.mem_of_getElem? (i := 7) (by decide +kernel)) (by decide +kernel) : Cond.selects (yX6_workOut).cls yX6_workOut yX6_workOut ∈ tbG), (tbG_of (List.mem_of_getElem? (i := 52) (by decide +kernel)) (by decide +kernel) : Cond.initialized (yX6_workOut).cls ∈ tbG), by decide +kernel, by decide +kernel, by decide +kernel, by decide +kernel⟩
theorem mc_X6_workOutPair : Cond.code yX6_workOutPair cX6_workOutPair 3 (some .int) ∈ tbG := tbG_of (List.mem_of_getElem? (i := 498) (by decide +kernel)) (by decide +kernel)
theorem md_X6_workOutPair : Cond.code yX6_workOutPair cX6_workOutPair 3 (some .int) ∈ tbG ∧ Cond.static yX6_workOutPair ∈ tbG ∧ Cond.initialized (yX6_workOutPair).cls ∈ tbG ∧ plainName (yX6_workOutPair).cls = true ∧ (yX6_workOutPair).cls ≠ "java/lang/invoke/MethodHandle" ∧ (yX6_workOutPair).cls ≠ "java/lang/invoke/VarHandle" ∧ (parseMethodDescriptor (yX6_workOutPair).desc).map (fun d => d.parameters.length) = some 3 := ⟨mc_X6_workOutPair, (tbG_of (List.mem_of_getElem? (i := 497) (by decide +kernel)) (by decide +kernel) : Cond.static yX6_workOutPair ∈ tbG), (tbG_of (List.mem_of_getElem? (i := 52) (by decide +kernel)) (by decide +kernel) : Cond.initialized (yX6_workOutPair).cls ∈ tbG), by decide +kernel, by decide +kernel, by decide +kernel, by decide +kernel⟩
theorem mc_X7_addressLent : Cond.code yX7_addressLent cX7_addressLent 2 (some .int) ∈ tbG := tbG_of (List.mem_of_getElem? (i := 680) (by decide +kernel)) (by decide +kernel)
theorem md_X7_addressLent : Cond.code yX7_addressLent cX7_addressLent 2 (some .int) ∈ tbG ∧ Cond.instanceMethod yX7_addressLent ∈ tbG ∧ Cond.selects (yX7_addressLent).cls yX7_addressLent yX7_addressLent ∈ tbG ∧ Cond.initialized (yX7_addressLent).cls ∈ tbG ∧ plainName (yX7_addressLent).cls = true ∧ (yX7_addressLent).cls ≠ "java/lang/invoke/MethodHandle" ∧ (yX7_addressLent).cls ≠ "java/lang/invoke/VarHandle" ∧ (parseMethodDescriptor (yX7_addressLent).desc).map (fun d => d.parameters.length) = some 1 := ⟨mc_X7_addressLent, (tbG_of (List.mem_of_getElem? (i := 679) (by decide +kernel)) (by decide +kernel) : Cond.instanceMethod yX7_addressLent ∈ tbG), (tbG_of (List.mem_of_getElem? (i := 20) (by decide +kernel)) (by decide +kernel) : Cond.selects (yX7_addressLent).cls yX7_addressLent yX7_addressLent ∈ tbG), (tbG_of (List.mem_of_getElem? (i := 56) (by decide +kernel)) (by decide +kernel) : Cond.initialized (yX7_addressLent).cls ∈ tbG), by decide +kernel, by decide +kernel, by decide +kernel, by decide +kernel⟩
theorem mc_X7_addressMade : Cond.code yX7_addressMade cX7_addressMade 1 (some .int) ∈ tbG := tbG_of (List.mem_of_getElem? (i := 676) (by decide +kernel)) (by decide +kernel)
theorem md_X7_addressMade : Cond.code yX7_addressMade cX7_addressMade 1 (some .int) ∈ tbG ∧ Cond.instanceMethod yX7_addressMade ∈ tbG ∧ Cond.selects (yX7_addressMade).cls yX7_addressMade yX7_addressMade ∈ tbG ∧ Cond.initialized (yX7_addressMade).cls ∈ tbG ∧ plainName (yX7_addressMade).cls = true ∧ (yX7_addressMade).cls ≠ "java/lang/invoke/MethodHandle" ∧ (yX7_addressMade).cls ≠ "java/lang/invoke/VarHandle" ∧ (parseMethodDescriptor (yX7_addressMade).desc).map (fun d => d.parameters.length) = some 0 := ⟨mc_X7_addressMade, (tbG_of (List.mem_of_getElem? (i := 675) (by decide +kernel)) (by decide +kernel) : Cond.instanceMethod yX7_addressMade ∈ tbG), (tbG_of (List.mem_of_getElem? (i := 19) (by decide +kernel)) (by decide +kernel) : Cond.selects (yX7_addressMade).cls yX7_addressMade yX7_addressMade ∈ tbG), (tbG_of (List.mem_of_getElem? (i := 56) (by decide +kernel)) (by decide +kernel) : Cond.initialized (yX7_addressMade).cls ∈ tbG), by decide +kernel, by decide +kernel, by decide +kernel, by decide +kernel⟩
theorem mc_X7_addressOne : Cond.code yX7_addressOne cX7_addressOne 3 (some .int) ∈ tbG := tbG_of (List.mem_of_getElem? (i := 672) (by decide +kernel)) (by decide +kernel)
theorem md_X7_addressOne : Cond.code yX7_addressOne cX7_addressOne 3 (some .int) ∈ tbG ∧ Cond.instanceMethod yX7_addressOne ∈ tbG ∧ Cond.selects (yX7_addressOne).cls yX7_addressOne yX7_addressOne ∈ tbG ∧ Cond.initialized (yX7_addressOne).cls ∈ tbG ∧ plainName (yX7_addressOne).cls = true ∧ (yX7_addressOne).cls ≠ "java/lang/invoke/MethodHandle" ∧ (yX7_addressOne).cls ≠ "java/lang/invoke/VarHandle" ∧ (parseMethodDescriptor (yX7_addressOne).desc).map (fun d => d.parameters.length) = some 2 := ⟨mc_X7_addressOne, (tbG_of (List.mem_of_getElem? (i := 670) (by decide +kernel)) (by decide +kernel) : Cond.instanceMethod yX7_addressOne ∈ tbG), (tbG_of (List.mem_of_getElem? (i := 671) (by decide +kernel)) (by decide +kernel) : Cond.selects (yX7_addressOne).cls yX7_addressOne yX7_addressOne ∈ tbG), (tbG_of (List.mem_of_getElem? (i := 56) (by decide +kernel)) (by decide +kernel) : Cond.initialized (yX7_addressOne).cls ∈ tbG), by decide +kernel, by decide +kernel, by decide +kernel, by decide +kernel⟩
theorem mc_X7_leave : Cond.code yX7_leave cX7_leave 2 none ∈ tbG := tbG_of (List.mem_of_getElem? (i := 656) (by decide +kernel)) (by decide +kernel)
theorem md_X7_leave : Cond.code yX7_leave cX7_leave 2 none ∈ tbG ∧ Cond.instanceMethod yX7_leave ∈ tbG ∧ Cond.selects (yX7_leave).cls yX7_leave yX7_leave ∈ tbG ∧ Cond.initialized (yX7_leave).cls ∈ tbG ∧ plainName (yX7_leave).cls = true ∧ (yX7_leave).cls ≠ "java/lang/invoke/MethodHandle" ∧ (yX7_leave).cls ≠ "java/lang/invoke/VarHandle" ∧ (parseMethodDescriptor (yX7_leave).desc).map (fun d => d.parameters.length) = some 1 := ⟨mc_X7_leave, (tbG_of (List.mem_of_getElem? (i := 655) (by decide +kernel)) (by decide +kernel) : Cond.instanceMethod yX7_leave ∈ tbG), (tbG_of (List.mem_of_getElem? (i := 16) (by decide +kernel)) (by decide +kernel) : Cond.selects (yX7_leave).cls yX7_leave yX7_leave ∈ tbG), (tbG_of (List.mem_of_getElem? (i := 56) (by decide +kernel)) (by decide +kernel) : Cond.initialized (yX7_leave).cls ∈ tbG), by decide +kernel, by decide +kernel, by decide +kernel, by decide +kernel⟩
theorem mc_X7_tellAsked : Cond.code yX7_tellAsked cX7_tellAsked 3 (some .int) ∈ tbG := tbG_of (List.mem_of_getElem? (i := 660) (by decide +kernel)) (by decide +kernel)
theorem md_X7_tellAsked : Cond.code yX7_tellAsked cX7_tellAsked 3 (some .int) ∈ tbG ∧ Cond.instanceMethod yX7_tellAsked ∈ tbG ∧ Cond.selects (yX7_tellAsked).cls yX7_tellAsked yX7_tellAsked ∈ tbG ∧ Cond.initialized (yX7_tellAsked).cls ∈ tbG ∧ plainName (yX7_tellAsked).cls = true ∧ (yX7_tellAsked).cls ≠ "java/lang/invoke/MethodHandle" ∧ (yX7_tellAsked).cls ≠ "java/lang/invoke/VarHandle" ∧ (parseMethodDescriptor (yX7_tellAsked).desc).map (fun d => d.parameters.length) = some 2 := ⟨mc_X7_tellAsked, (tbG_of (List.mem_of_getElem? (i := 659) (by decide +kernel)) (by decide +kernel) : Cond.instanceMethod yX7_tellAsked ∈ tbG), (tbG_of (List.mem_of_getElem? (i := 17) (by decide +kernel)) (by decide +kernel) : Cond.selects (yX7_tellAsked).cls yX7_tellAsked yX7_tellAsked ∈ tbG), (tbG_of (List.mem_of_getElem? (i := 56) (by decide +kernel)) (by decide +kernel) : Cond.initialized (yX7_tellAsked).cls ∈ tbG), by decide +kernel, by decide +kernel, by decide +kernel, by decide +kernel⟩
theorem mc_X7_tellMade : Cond.code yX7_tellMade cX7_tellMade 3 (some .int) ∈ tbG := tbG_of (List.mem_of_getElem? (i := 652) (by decide +kernel)) (by decide +kernel)
theorem md_X7_tellMade : Cond.code yX7_tellMade cX7_tellMade 3 (some .int) ∈ tbG ∧ Cond.instanceMethod yX7_tellMade ∈ tbG ∧ Cond.selects (yX7_tellMade).cls yX7_tellMade yX7_tellMade ∈ tbG ∧ Cond.initialized (yX7_tellMade).cls ∈ tbG ∧ plainName (yX7_tellMade).cls = true ∧ (yX7_tellMade).cls ≠ "java/lang/invoke/MethodHandle" ∧ (yX7_tellMade).cls ≠ "java/lang/invoke/VarHandle" ∧ (parseMethodDescriptor (yX7_tellMade).desc).map (fun d => d.parameters.length) = some 2 := ⟨mc_X7_tellMade, (tbG_of (List.mem_of_getElem? (i := 651) (by decide +kernel)) (by decide +kernel) : Cond.instanceMethod yX7_tellMade ∈ tbG), (tbG_of (List.mem_of_getElem? (i := 15) (by decide +kernel)) (by decide +kernel) : Cond.selects (yX7_tellMade).cls yX7_tellMade yX7_tellMade ∈ tbG), (tbG_of (List.mem_of_getElem? (i := 56) (by decide +kernel)) (by decide +kernel) : Cond.initialized (yX7_tellMade).cls ∈ tbG), by decide +kernel, by decide +kernel, by decide +kernel, by decide +kernel⟩
theorem mc_X7_tellNeeded : Cond.code yX7_tellNeeded cX7_tellNeeded 3 (some .int) ∈ tbG := tbG_of (List.mem_of_getElem? (i := 664) (by decide +kernel)) (by decide +kernel)
theorem md_X7_tellNeeded : Cond.code yX7_tellNeeded cX7_tellNeeded 3 (some .int) ∈ tbG ∧ Cond.instanceMethod yX7_tellNeeded ∈ tbG ∧ Cond.selects (yX7_tellNeeded).cls yX7_tellNeeded yX7_tellNeeded ∈ tbG ∧ Cond.initialized (yX7_tellNeeded).cls ∈ tbG ∧ plainName (yX7_tellNeeded).cls = true ∧ (yX7_tellNeeded).cls ≠ "java/lang/invoke/MethodHandle" ∧ (yX7_tellNeeded).cls ≠ "java/lang/invoke/VarHandle" ∧ (parseMethodDescriptor (yX7_tellNeeded).desc).map (fun d => d.parameters.length) = some 2 := ⟨mc_X7_tellNeeded, (tbG_of (List.mem_of_getElem? (i := 663) (by decide +kernel)) (by decide +kernel) : Cond.instanceMethod yX7_tellNeeded ∈ tbG), (tbG_of (List.mem_of_getElem? (i := 18) (by decide +kernel)) (by decide +kernel) : Cond.selects (yX7_tellNeeded).cls yX7_tellNeeded yX7_tellNeeded ∈ tbG), (tbG_of (List.mem_of_getElem? (i := 56) (by decide +kernel)) (by decide +kernel) : Cond.initialized (yX7_tellNeeded).cls ∈ tbG), by decide +kernel, by decide +kernel, by decide +kernel, by decide +kernel⟩
theorem mc_X7_tellOne : Cond.code yX7_tellOne cX7_tellOne 3 (some .int) ∈ tbG := tbG_of (List.mem_of_getElem? (i := 644) (by decide +kernel)) (by decide +kernel)
theorem md_X7_tellOne : Cond.code yX7_tellOne cX7_tellOne 3 (some .int) ∈ tbG ∧ Cond.instanceMethod yX7_tellOne ∈ tbG ∧ Cond.selects (yX7_tellOne).cls yX7_tellOne yX7_tellOne ∈ tbG ∧ Cond.initialized (yX7_tellOne).cls ∈ tbG ∧ plainName (yX7_tellOne).cls = true ∧ (yX7_tellOne).cls ≠ "java/lang/invoke/MethodHandle" ∧ (yX7_tellOne).cls ≠ "java/lang/invoke/VarHandle" ∧ (parseMethodDescriptor (yX7_tellOne).desc).map (fun d => d.parameters.length) = some 2 := ⟨mc_X7_tellOne, (tbG_of (List.mem_of_getElem? (i := 642) (by decide +kernel)) (by decide +kernel) : Cond.instanceMethod yX7_tellOne ∈ tbG), (tbG_of (List.mem_of_getElem? (i := 643) (by decide +kernel)) (by decide +kernel) : Cond.selects (yX7_tellOne).cls yX7_tellOne yX7_tellOne ∈ tbG), (tbG_of (List.mem_of_getElem? (i := 56) (by decide +kernel)) (by decide +kernel) : Cond.initialized (yX7_tellOne).cls ∈ tbG), by decide +kernel, by decide +kernel, by decide +kernel, by decide +kernel⟩
theorem mc_X7_tellPlain : Cond.code yX7_tellPlain cX7_tellPlain 3 (some .int) ∈ tbG := tbG_of (List.mem_of_getElem? (i := 648) (by decide +kernel)) (by decide +kernel)
theorem md_X7_tellPlain : Cond.code yX7_tellPlain cX7_tellPlain 3 (some .int) ∈ tbG ∧ Cond.instanceMethod yX7_tellPlain ∈ tbG ∧ Cond.selects (yX7_tellPlain).cls yX7_tellPlain yX7_tellPlain ∈ tbG ∧ Cond.initialized (yX7_tellPlain).cls ∈ tbG ∧ plainName (yX7_tellPlain).cls = true ∧ (yX7_tellPlain).cls ≠ "java/lang/invoke/MethodHandle" ∧ (yX7_tellPlain).cls ≠ "java/lang/invoke/VarHandle" ∧ (parseMethodDescriptor (yX7_tellPlain).desc).map (fun d => d.parameters.length) = some 2 := ⟨mc_X7_tellPlain, (tbG_of (List.mem_of_getElem? (i := 647) (by decide +kernel)) (by decide +kernel) : Cond.instanceMethod yX7_tellPlain ∈ tbG), (tbG_of (List.mem_of_getElem? (i := 14) (by decide +kernel)) (by decide +kernel) : Cond.selects (yX7_tellPlain).cls yX7_tellPlain yX7_tellPlain ∈ tbG), (tbG_of (List.mem_of_getElem? (i := 56) (by decide +kernel)) (by decide +kernel) : Cond.initialized (yX7_tellPlain).cls ∈ tbG), by decide +kernel, by decide +kernel, by decide +kernel, by decide +kernel⟩
theorem mc_X8_countRows : Cond.code yX8_countRows cX8_countRows 4 (some .int) ∈ tbG := tbG_of (List.mem_of_getElem? (i := 601) (by decide +kernel)) (by decide +kernel)
theorem md_X8_countRows : Cond.code yX8_countRows cX8_countRows 4 (some .int) ∈ tbG ∧ Cond.static yX8_countRows ∈ tbG ∧ Cond.initialized (yX8_countRows).cls ∈ tbG ∧ plainName (yX8_countRows).cls = true ∧ (yX8_countRows).cls ≠ "java/lang/invoke/MethodHandle" ∧ (yX8_countRows).cls ≠ "java/lang/invoke/VarHandle" ∧ (parseMethodDescriptor (yX8_countRows).desc).map (fun d => d.parameters.length) = some 2 := ⟨mc_X8_countRows, (tbG_of (List.mem_of_getElem? (i := 600) (by decide +kernel)) (by decide +kernel) : Cond.static yX8_countRows ∈ tbG), (tbG_of (List.mem_of_getElem? (i := 55) (by decide +kernel)) (by decide +kernel) : Cond.initialized (yX8_countRows).cls ∈ tbG), by decide +kernel, by decide +kernel, by decide +kernel, by decide +kernel⟩
theorem mc_X8_listTurning : Cond.code yX8_listTurning cX8_listTurning 3 none ∈ tbG := tbG_of (List.mem_of_getElem? (i := 606) (by decide +kernel)) (by decide +kernel)
theorem md_X8_listTurning : Cond.code yX8_listTurning cX8_listTurning 3 none ∈ tbG ∧ Cond.instanceMethod yX8_listTurning ∈ tbG ∧ Cond.selects (yX8_listTurning).cls yX8_listTurning yX8_listTurning ∈ tbG ∧ Cond.initialized (yX8_listTurning).cls ∈ tbG ∧ plainName (yX8_listTurning).cls = true ∧ (yX8_listTurning).cls ≠ "java/lang/invoke/MethodHandle" ∧ (yX8_listTurning).cls ≠ "java/lang/invoke/VarHandle" ∧ (parseMethodDescriptor (yX8_listTurning).desc).map (fun d => d.parameters.length) = some 1 := ⟨mc_X8_listTurning, (tbG_of (List.mem_of_getElem? (i := 605) (by decide +kernel)) (by decide +kernel) : Cond.instanceMethod yX8_listTurning ∈ tbG), (tbG_of (List.mem_of_getElem? (i := 10) (by decide +kernel)) (by decide +kernel) : Cond.selects (yX8_listTurning).cls yX8_listTurning yX8_listTurning ∈ tbG), (tbG_of (List.mem_of_getElem? (i := 55) (by decide +kernel)) (by decide +kernel) : Cond.initialized (yX8_listTurning).cls ∈ tbG), by decide +kernel, by decide +kernel, by decide +kernel, by decide +kernel⟩
theorem mc_X8_run : Cond.code yX8_run cX8_run 5 (some .int) ∈ tbG := tbG_of (List.mem_of_getElem? (i := 597) (by decide +kernel)) (by decide +kernel)
theorem md_X8_run : Cond.code yX8_run cX8_run 5 (some .int) ∈ tbG ∧ Cond.instanceMethod yX8_run ∈ tbG ∧ Cond.selects (yX8_run).cls yX8_run yX8_run ∈ tbG ∧ Cond.initialized (yX8_run).cls ∈ tbG ∧ plainName (yX8_run).cls = true ∧ (yX8_run).cls ≠ "java/lang/invoke/MethodHandle" ∧ (yX8_run).cls ≠ "java/lang/invoke/VarHandle" ∧ (parseMethodDescriptor (yX8_run).desc).map (fun d => d.parameters.length) = some 2 := ⟨mc_X8_run, (tbG_of (List.mem_of_getElem? (i := 595) (by decide +kernel)) (by decide +kernel) : Cond.instanceMethod yX8_run ∈ tbG), (tbG_of (List.mem_of_getElem? (i := 596) (by decide +kernel)) (by decide +kernel) : Cond.selects (yX8_run).cls yX8_run yX8_run ∈ tbG), (tbG_of (List.mem_of_getElem? (i := 55) (by decide +kernel)) (by decide +kernel) : Cond.initialized (yX8_run).cls ∈ tbG), by decide +kernel, by decide +kernel, by decide +kernel, by decide +kernel⟩
theorem mc_X8_turnRow : Cond.code yX8_turnRow cX8_turnRow 5 (some .int) ∈ tbG := tbG_of (List.mem_of_getElem? (i := 611) (by decide +kernel)) (by decide +kernel)
theorem md_X8_turnRow : Cond.code yX8_turnRow cX8_turnRow 5 (some .int) ∈ tbG ∧ Cond.instanceMethod yX8_turnRow ∈ tbG ∧ Cond.selects (yX8_turnRow).cls yX8_turnRow yX8_turnRow ∈ tbG ∧ Cond.initialized (yX8_turnRow).cls ∈ tbG ∧ plainName (yX8_turnRow).cls = true ∧ (yX8_turnRow).cls ≠ "java/lang/invoke/MethodHandle" ∧ (yX8_turnRow).cls ≠ "java/lang/invoke/VarHandle" ∧ (parseMethodDescriptor (yX8_turnRow).desc).map (fun d => d.parameters.length) = some 1 := ⟨mc_X8_turnRow, (tbG_of (List.mem_of_getElem? (i := 610) (by decide +kernel)) (by decide +kernel) : Cond.instanceMethod yX8_turnRow ∈ tbG), (tbG_of (List.mem_of_getElem? (i := 11) (by decide +kernel)) (by decide +kernel) : Cond.selects (yX8_turnRow).cls yX8_turnRow yX8_turnRow ∈ tbG), (tbG_of (List.mem_of_getElem? (i := 55) (by decide +kernel)) (by decide +kernel) : Cond.initialized (yX8_turnRow).cls ∈ tbG), by decide +kernel, by decide +kernel, by decide +kernel, by decide +kernel⟩
theorem mc_X9_about : Cond.code yX9_about cX9_about 3 (some .int) ∈ tbG := tbG_of (List.mem_of_getElem? (i := 432) (by decide +kernel)) (by decide +kernel)
theorem md_X9_about : Cond.code yX9_about cX9_about 3 (some .int) ∈ tbG ∧ Cond.instanceMethod yX9_about ∈ tbG ∧ Cond.selects (yX9_about).cls yX9_about yX9_about ∈ tbG ∧ Cond.initialized (yX9_about).cls ∈ tbG ∧ plainName (yX9_about).cls = true ∧ (yX9_about).cls ≠ "java/lang/invoke/MethodHandle" ∧ (yX9_about).cls ≠ "java/lang/invoke/VarHandle" ∧ (parseMethodDescriptor (yX9_about).desc).map (fun d => d.parameters.length) = some 2 := ⟨mc_X9_about, (tbG_of (List.mem_of_getElem? (i := 430) (by decide +kernel)) (by decide +kernel) : Cond.instanceMethod yX9_about ∈ tbG), (tbG_of (List.mem_of_getElem? (i := 431) (by decide +kernel)) (by decide +kernel) : Cond.selects (yX9_about).cls yX9_about yX9_about ∈ tbG), (tbG_of (List.mem_of_getElem? (i := 46) (by decide +kernel)) (by decide +kernel) : Cond.initialized (yX9_about).cls ∈ tbG), by decide +kernel, by decide +kernel, by decide +kernel, by decide +kernel⟩
theorem mc_X9_address : Cond.code yX9_address cX9_address 2 (some .int) ∈ tbG := tbG_of (List.mem_of_getElem? (i := 668) (by decide +kernel)) (by decide +kernel)
theorem md_X9_address : Cond.code yX9_address cX9_address 2 (some .int) ∈ tbG ∧ Cond.instanceMethod yX9_address ∈ tbG ∧ Cond.selects (yX9_address).cls yX9_address yX9_address ∈ tbG ∧ Cond.initialized (yX9_address).cls ∈ tbG ∧ plainName (yX9_address).cls = true ∧ (yX9_address).cls ≠ "java/lang/invoke/MethodHandle" ∧ (yX9_address).cls ≠ "java/lang/invoke/VarHandle" ∧ (parseMethodDescriptor (yX9_address).desc).map (fun d => d.parameters.length) = some 1 := ⟨mc_X9_address, (tbG_of (List.mem_of_getElem? (i := 666) (by decide +kernel)) (by decide +kernel) : Cond.instanceMethod yX9_address ∈ tbG), (tbG_of (List.mem_of_getElem? (i := 667) (by decide +kernel)) (by decide +kernel) : Cond.selects (yX9_address).cls yX9_address yX9_address ∈ tbG), (tbG_of (List.mem_of_getElem? (i := 46) (by decide +kernel)) (by decide +kernel) : Cond.initialized (yX9_address).cls ∈ tbG), by decide +kernel, by decide +kernel, by decide +kernel, by decide +kernel⟩
theorem mc_X9_answer : Cond.code yX9_answer cX9_answer 4 (some .int) ∈ tbG := tbG_of (List.mem_of_getElem? (i := 449) (by decide +kernel)) (by decide +kernel)
theorem md_X9_answer : Cond.code yX9_answer cX9_answer 4 (some .int) ∈ tbG ∧ Cond.instanceMethod yX9_answer ∈ tbG ∧ Cond.selects (yX9_answer).cls yX9_answer yX9_answer ∈ tbG ∧ Cond.initialized (yX9_answer).cls ∈ tbG ∧ plainName (yX9_answer).cls = true ∧ (yX9_answer).cls ≠ "java/lang/invoke/MethodHandle" ∧ (yX9_answer).cls ≠ "java/lang/invoke/VarHandle" ∧ (parseMethodDescriptor (yX9_answer).desc).map (fun d => d.parameters.length) = some 3 := ⟨mc_X9_answer, (tbG_of (List.mem_of_getElem? (i := 447) (by decide +kernel)) (by decide +kernel) : Cond.instanceMethod yX9_answer ∈ tbG), (tbG_of (List.mem_of_getElem? (i := 448) (by decide +kernel)) (by decide +kernel) : Cond.selects (yX9_answer).cls yX9_answer yX9_answer ∈ tbG), (tbG_of (List.mem_of_getElem? (i := 46) (by decide +kernel)) (by decide +kernel) : Cond.initialized (yX9_answer).cls ∈ tbG), by decide +kernel, by decide +kernel, by decide +kernel, by decide +kernel⟩
theorem mc_X9_clear : Cond.code yX9_clear cX9_clear 4 (some .int) ∈ tbG := tbG_of (List.mem_of_getElem? (i := 477) (by decide +kernel)) (by decide +kernel)
theorem md_X9_clear : Cond.code yX9_clear cX9_clear 4 (some .int) ∈ tbG ∧ Cond.instanceMethod yX9_clear ∈ tbG ∧ Cond.selects (yX9_clear).cls yX9_clear yX9_clear ∈ tbG ∧ Cond.initialized (yX9_clear).cls ∈ tbG ∧ plainName (yX9_clear).cls = true ∧ (yX9_clear).cls ≠ "java/lang/invoke/MethodHandle" ∧ (yX9_clear).cls ≠ "java/lang/invoke/VarHandle" ∧ (parseMethodDescriptor (yX9_clear).desc).map (fun d => d.parameters.length) = some 2 := ⟨mc_X9_clear, (tbG_of (List.mem_of_getElem? (i := 475) (by decide +kernel)) (by decide +kernel) : Cond.instanceMethod yX9_clear ∈ tbG), (tbG_of (List.mem_of_getElem? (i := 476) (by decide +kernel)) (by decide +kernel) : Cond.selects (yX9_clear).cls yX9_clear yX9_clear ∈ tbG), (tbG_of (List.mem_of_getElem? (i := 46) (by decide +kernel)) (by decide +kernel) : Cond.initialized (yX9_clear).cls ∈ tbG), by decide +kernel, by decide +kernel, by decide +kernel, by decide +kernel⟩
theorem mc_X9_copy : Cond.code yX9_copy cX9_copy 5 (some .int) ∈ tbG := tbG_of (List.mem_of_getElem? (i := 542) (by decide +kernel)) (by decide +kernel)
theorem md_X9_copy : Cond.code yX9_copy cX9_copy 5 (some .int) ∈ tbG ∧ Cond.instanceMethod yX9_copy ∈ tbG ∧ Cond.selects (yX9_copy).cls yX9_copy yX9_copy ∈ tbG ∧ Cond.initialized (yX9_copy).cls ∈ tbG ∧ plainName (yX9_copy).cls = true ∧ (yX9_copy).cls ≠ "java/lang/invoke/MethodHandle" ∧ (yX9_copy).cls ≠ "java/lang/invoke/VarHandle" ∧ (parseMethodDescriptor (yX9_copy).desc).map (fun d => d.parameters.length) = some 2 := ⟨mc_X9_copy, (tbG_of (List.mem_of_getElem? (i := 540) (by decide +kernel)) (by decide +kernel) : Cond.instanceMethod yX9_copy ∈ tbG), (tbG_of (List.mem_of_getElem? (i := 541) (by decide +kernel)) (by decide +kernel) : Cond.selects (yX9_copy).cls yX9_copy yX9_copy ∈ tbG), (tbG_of (List.mem_of_getElem? (i := 46) (by decide +kernel)) (by decide +kernel) : Cond.initialized (yX9_copy).cls ∈ tbG), by decide +kernel, by decide +kernel, by decide +kernel, by decide +kernel⟩
theorem mc_X9_countAnswers : Cond.code yX9_countAnswers cX9_countAnswers 4 (some .int) ∈ tbG := tbG_of (List.mem_of_getElem? (i := 636) (by decide +kernel)) (by decide +kernel)
theorem md_X9_countAnswers : Cond.code yX9_countAnswers cX9_countAnswers 4 (some .int) ∈ tbG ∧ Cond.instanceMethod yX9_countAnswers ∈ tbG ∧ Cond.selects (yX9_countAnswers).cls yX9_countAnswers yX9_countAnswers ∈ tbG ∧ Cond.initialized (yX9_countAnswers).cls ∈ tbG ∧ plainName (yX9_countAnswers).cls = true ∧ (yX9_countAnswers).cls ≠ "java/lang/invoke/MethodHandle" ∧ (yX9_countAnswers).cls ≠ "java/lang/invoke/VarHandle" ∧ (parseMethodDescriptor (yX9_countAnswers).desc).map (fun d => d.parameters.length) = some 1 := ⟨mc_X9_countAnswers, (tbG_of (List.mem_of_getElem? (i := 635) (by decide +kernel)) (by decide +kernel) : Cond.instanceMethod yX9_countAnswers ∈ tbG), (tbG_of (List.mem_of_getElem? (i := 13) (by decide +kernel)) (by decide +kernel) : Cond.selects (yX9_countAnswers).cls yX9_countAnswers yX9_countAnswers ∈ tbG), (tbG_of (List.mem_of_getElem? (i := 46) (by decide +kernel)) (by decide +kernel) : Cond.initialized (yX9_countAnswers).cls ∈ tbG), by decide +kernel, by decide +kernel, by decide +kernel, by decide +kernel⟩
theorem mc_X9_countHolding : Cond.code yX9_countHolding cX9_countHolding 3 (some .int) ∈ tbG := tbG_of (List.mem_of_getElem? (i := 632) (by decide +kernel)) (by decide +kernel)
theorem md_X9_countHolding : Cond.code yX9_countHolding cX9_countHolding 3 (some .int) ∈ tbG ∧ Cond.instanceMethod yX9_countHolding ∈ tbG ∧ Cond.selects (yX9_countHolding).cls yX9_countHolding yX9_countHolding ∈ tbG ∧ Cond.initialized (yX9_countHolding).cls ∈ tbG ∧ plainName (yX9_countHolding).cls = true ∧ (yX9_countHolding).cls ≠ "java/lang/invoke/MethodHandle" ∧ (yX9_countHolding).cls ≠ "java/lang/invoke/VarHandle" ∧ (parseMethodDescriptor (yX9_countHolding).desc).map (fun d => d.parameters.length) = some 0 := ⟨mc_X9_countHolding, (tbG_of (List.mem_of_getElem? (i := 631) (by decide +kernel)) (by decide +kernel) : Cond.instanceMethod yX9_countHolding ∈ tbG), (tbG_of (List.mem_of_getElem? (i := 12) (by decide +kernel)) (by decide +kernel) : Cond.selects (yX9_countHolding).cls yX9_countHolding yX9_countHolding ∈ tbG), (tbG_of (List.mem_of_getElem? (i := 46) (by decide +kernel)) (by decide +kernel) : Cond.initialized (yX9_countHolding).cls ∈ tbG), by decide +kernel, by decide +kernel, by decide +kernel, by decide +kernel⟩
theorem mc_X9_counts : Cond.code yX9_counts cX9_counts 3 (some .int) ∈ tbG := tbG_of (List.mem_of_getElem? (i := 522) (by decide +kernel)) (by decide +kernel)
theorem md_X9_counts : Cond.code yX9_counts cX9_counts 3 (some .int) ∈ tbG ∧ Cond.instanceMethod yX9_counts ∈ tbG ∧ Cond.selects (yX9_counts).cls yX9_counts yX9_counts ∈ tbG ∧ Cond.initialized (yX9_counts).cls ∈ tbG ∧ plainName (yX9_counts).cls = true ∧ (yX9_counts).cls ≠ "java/lang/invoke/MethodHandle" ∧ (yX9_counts).cls ≠ "java/lang/invoke/VarHandle" ∧ (parseMethodDescriptor (yX9_counts).desc).map (fun d => d.parameters.length) = some 2 := ⟨mc_X9_counts, (tbG_of (List.mem_of_getElem? (i := 520) (by decide +kernel)) (by decide +kernel) : Cond.instanceMethod yX9_counts ∈ tbG), (tbG_of (List.mem_of_getElem? (i := 521) (by decide +kernel)) (by decide +kernel) : Cond.selects (yX9_counts).cls yX9_counts yX9_counts ∈ tbG), (tbG_of (List.mem_of_getElem? (i := 46) (by decide +kernel)) (by decide +kernel) : Cond.initialized (yX9_counts).cls ∈ tbG), by decide +kernel, by decide +kernel, by decide +kernel, by decide +kernel⟩
theorem mc_X9_done : Cond.code yX9_done cX9_done 4 (some .int) ∈ tbG := tbG_of (List.mem_of_getElem? (i := 534) (by decide +kernel)) (by decide +kernel)
theorem md_X9_done : Cond.code yX9_done cX9_done 4 (some .int) ∈ tbG ∧ Cond.instanceMethod yX9_done ∈ tbG ∧ Cond.selects (yX9_done).cls yX9_done yX9_done ∈ tbG ∧ Cond.initialized (yX9_done).cls ∈ tbG ∧ plainName (yX9_done).cls = true ∧ (yX9_done).cls ≠ "java/lang/invoke/MethodHandle" ∧ (yX9_done).cls ≠ "java/lang/invoke/VarHandle" ∧ (parseMethodDescriptor (yX9_done).desc).map (fun d => d.parameters.length) = some 1 := ⟨mc_X9_done, (tbG_of (List.mem_of_getElem? (i := 532) (by decide +kernel)) (by decide +kernel) : Cond.instanceMethod yX9_done ∈ tbG), (tbG_of (List.mem_of_getElem? (i := 533) (by decide +kernel)) (by decide +kernel) : Cond.selects (yX9_done).cls yX9_done yX9_done ∈ tbG), (tbG_of (List.mem_of_getElem? (i := 46) (by decide +kernel)) (by decide +kernel) : Cond.initialized (yX9_done).cls ∈ tbG), by decide +kernel, by decide +kernel, by decide +kernel, by decide +kernel⟩
theorem mc_X9_field : Cond.code yX9_field cX9_field 5 (some .int) ∈ tbG := tbG_of (List.mem_of_getElem? (i := 339) (by decide +kernel)) (by decide +kernel)
theorem md_X9_field : Cond.code yX9_field cX9_field 5 (some .int) ∈ tbG ∧ Cond.instanceMethod yX9_field ∈ tbG ∧ Cond.selects (yX9_field).cls yX9_field yX9_field ∈ tbG ∧ Cond.initialized (yX9_field).cls ∈ tbG ∧ plainName (yX9_field).cls = true ∧ (yX9_field).cls ≠ "java/lang/invoke/MethodHandle" ∧ (yX9_field).cls ≠ "java/lang/invoke/VarHandle" ∧ (parseMethodDescriptor (yX9_field).desc).map (fun d => d.parameters.length) = some 3 := ⟨mc_X9_field, (tbG_of (List.mem_of_getElem? (i := 337) (by decide +kernel)) (by decide +kernel) : Cond.instanceMethod yX9_field ∈ tbG), (tbG_of (List.mem_of_getElem? (i := 338) (by decide +kernel)) (by decide +kernel) : Cond.selects (yX9_field).cls yX9_field yX9_field ∈ tbG), (tbG_of (List.mem_of_getElem? (i := 46) (by decide +kernel)) (by decide +kernel) : Cond.initialized (yX9_field).cls ∈ tbG), by decide +kernel, by decide +kernel, by decide +kernel, by decide +kernel⟩
theorem mc_X9_found : Cond.code yX9_found cX9_found 2 (some .int) ∈ tbG := tbG_of (List.mem_of_getElem? (i := 620) (by decide +kernel)) (by decide +kernel)
theorem md_X9_found : Cond.code yX9_found cX9_found 2 (some .int) ∈ tbG ∧ Cond.instanceMethod yX9_found ∈ tbG ∧ Cond.selects (yX9_found).cls yX9_found yX9_found ∈ tbG ∧ Cond.initialized (yX9_found).cls ∈ tbG ∧ plainName (yX9_found).cls = true ∧ (yX9_found).cls ≠ "java/lang/invoke/MethodHandle" ∧ (yX9_found).cls ≠ "java/lang/invoke/VarHandle" ∧ (parseMethodDescriptor (yX9_found).desc).map (fun d => d.parameters.length) = some 1 := ⟨mc_X9_found, (tbG_of (List.mem_of_getElem? (i := 618) (by decide +kernel)) (by decide +kernel) : Cond.instanceMethod yX9_found ∈ tbG), (tbG_of (List.mem_of_getElem? (i := 619) (by decide +kernel)) (by decide +kernel) : Cond.selects (yX9_found).cls yX9_found yX9_found ∈ tbG), (tbG_of (List.mem_of_getElem? (i := 46) (by decide +kernel)) (by decide +kernel) : Cond.initialized (yX9_found).cls ∈ tbG), by decide +kernel, by decide +kernel, by decide +kernel, by decide +kernel⟩
theorem mc_X9_hangs : Cond.code yX9_hangs cX9_hangs 3 (some .int) ∈ tbG := tbG_of (List.mem_of_getElem? (i := 444) (by decide +kernel)) (by decide +kernel)
theorem md_X9_hangs : Cond.code yX9_hangs cX9_hangs 3 (some .int) ∈ tbG ∧ Cond.instanceMethod yX9_hangs ∈ tbG ∧ Cond.selects (yX9_hangs).cls yX9_hangs yX9_hangs ∈ tbG ∧ Cond.initialized (yX9_hangs).cls ∈ tbG ∧ plainName (yX9_hangs).cls = true ∧ (yX9_hangs).cls ≠ "java/lang/invoke/MethodHandle" ∧ (yX9_hangs).cls ≠ "java/lang/invoke/VarHandle" ∧ (parseMethodDescriptor (yX9_hangs).desc).map (fun d => d.parameters.length) = some 2 := ⟨mc_X9_hangs, (tbG_of (List.mem_of_getElem? (i := 442) (by decide +kernel)) (by decide +kernel) : Cond.instanceMethod yX9_hangs ∈ tbG), (tbG_of (List.mem_of_getElem? (i := 443) (by decide +kernel)) (by decide +kernel) : Cond.selects (yX9_hangs).cls yX9_hangs yX9_hangs ∈ tbG), (tbG_of (List.mem_of_getElem? (i := 46) (by decide +kernel)) (by decide +kernel) : Cond.initialized (yX9_hangs).cls ∈ tbG), by decide +kernel, by decide +kernel, by decide +kernel, by decide +kernel⟩
theorem mc_X9_hasBit : Cond.code yX9_hasBit cX9_hasBit 2 (some .boolean) ∈ tbG := tbG_of (List.mem_of_getElem? (i := 355) (by decide +kernel)) (by decide +kernel)
theorem md_X9_hasBit : Cond.code yX9_hasBit cX9_hasBit 2 (some .boolean) ∈ tbG ∧ Cond.static yX9_hasBit ∈ tbG ∧ Cond.initialized (yX9_hasBit).cls ∈ tbG ∧ plainName (yX9_hasBit).cls = true ∧ (yX9_hasBit).cls ≠ "java/lang/invoke/MethodHandle" ∧ (yX9_hasBit).cls ≠ "java/lang/invoke/VarHandle" ∧ (parseMethodDescriptor (yX9_hasBit).desc).map (fun d => d.parameters.length) = some 2 := ⟨mc_X9_hasBit, (tbG_of (List.mem_of_getElem? (i := 354) (by decide +kernel)) (by decide +kernel) : Cond.static yX9_hasBit ∈ tbG), (tbG_of (List.mem_of_getElem? (i := 46) (by decide +kernel)) (by decide +kernel) : Cond.initialized (yX9_hasBit).cls ∈ tbG), by decide +kernel, by decide +kernel, by decide +kernel, by decide +kernel⟩
theorem mc_X9_hasDraft : Cond.code yX9_hasDraft cX9_hasDraft 2 (some .boolean) ∈ tbG := tbG_of (List.mem_of_getElem? (i := 457) (by decide +kernel)) (by decide +kernel)
theorem md_X9_hasDraft : Cond.code yX9_hasDraft cX9_hasDraft 2 (some .boolean) ∈ tbG ∧ Cond.instanceMethod yX9_hasDraft ∈ tbG ∧ Cond.selects (yX9_hasDraft).cls yX9_hasDraft yX9_hasDraft ∈ tbG ∧ Cond.initialized (yX9_hasDraft).cls ∈ tbG ∧ plainName (yX9_hasDraft).cls = true ∧ (yX9_hasDraft).cls ≠ "java/lang/invoke/MethodHandle" ∧ (yX9_hasDraft).cls ≠ "java/lang/invoke/VarHandle" ∧ (parseMethodDescriptor (yX9_hasDraft).desc).map (fun d => d.parameters.length) = some 1 := ⟨mc_X9_hasDraft, (tbG_of (List.mem_of_getElem? (i := 456) (by decide +kernel)) (by decide +kernel) : Cond.instanceMethod yX9_hasDraft ∈ tbG), (tbG_of (List.mem_of_getElem? (i := 4) (by decide +kernel)) (by decide +kernel) : Cond.selects (yX9_hasDraft).cls yX9_hasDraft yX9_hasDraft ∈ tbG), (tbG_of (List.mem_of_getElem? (i := 46) (by decide +kernel)) (by decide +kernel) : Cond.initialized (yX9_hasDraft).cls ∈ tbG), by decide +kernel, by decide +kernel, by decide +kernel, by decide +kernel⟩
theorem mc_X9_hasPlace : Cond.code yX9_hasPlace cX9_hasPlace 3 (some .boolean) ∈ tbG := tbG_of (List.mem_of_getElem? (i := 453) (by decide +kernel)) (by decide +kernel)
theorem md_X9_hasPlace : Cond.code yX9_hasPlace cX9_hasPlace 3 (some .boolean) ∈ tbG ∧ Cond.instanceMethod yX9_hasPlace ∈ tbG ∧ Cond.selects (yX9_hasPlace).cls yX9_hasPlace yX9_hasPlace ∈ tbG ∧ Cond.initialized (yX9_hasPlace).cls ∈ tbG ∧ plainName (yX9_hasPlace).cls = true ∧ (yX9_hasPlace).cls ≠ "java/lang/invoke/MethodHandle" ∧ (yX9_hasPlace).cls ≠ "java/lang/invoke/VarHandle" ∧ (parseMethodDescriptor (yX9_hasPlace).desc).map (fun d => d.parameters.length) = some 2 := ⟨mc_X9_hasPlace, (tbG_of (List.mem_of_getElem? (i := 452) (by decide +kernel)) (by decide +kernel) : Cond.instanceMethod yX9_hasPlace ∈ tbG), (tbG_of (List.mem_of_getElem? (i := 3) (by decide +kernel)) (by decide +kernel) : Cond.selects (yX9_hasPlace).cls yX9_hasPlace yX9_hasPlace ∈ tbG), (tbG_of (List.mem_of_getElem? (i := 46) (by decide +kernel)) (by decide +kernel) : Cond.initialized (yX9_hasPlace).cls ∈ tbG), by decide +kernel, by decide +kernel, by decide +kernel, by decide +kernel⟩
theorem mc_X9_isHolding : Cond.code yX9_isHolding cX9_isHolding 2 (some .boolean) ∈ tbG := tbG_of (List.mem_of_getElem? (i := 585) (by decide +kernel)) (by decide +kernel)
theorem md_X9_isHolding : Cond.code yX9_isHolding cX9_isHolding 2 (some .boolean) ∈ tbG ∧ Cond.instanceMethod yX9_isHolding ∈ tbG ∧ Cond.selects (yX9_isHolding).cls yX9_isHolding yX9_isHolding ∈ tbG ∧ Cond.initialized (yX9_isHolding).cls ∈ tbG ∧ plainName (yX9_isHolding).cls = true ∧ (yX9_isHolding).cls ≠ "java/lang/invoke/MethodHandle" ∧ (yX9_isHolding).cls ≠ "java/lang/invoke/VarHandle" ∧ (parseMethodDescriptor (yX9_isHolding).desc).map (fun d => d.parameters.length) = some 1 := ⟨mc_X9_isHolding, (tbG_of (List.mem_of_getElem? (i := 584) (by decide +kernel)) (by decide +kernel) : Cond.instanceMethod yX9_isHolding ∈ tbG), (tbG_of (List.mem_of_getElem? (i := 9) (by decide +kernel)) (by decide +kernel) : Cond.selects (yX9_isHolding).cls yX9_isHolding yX9_isHolding ∈ tbG), (tbG_of (List.mem_of_getElem? (i := 46) (by decide +kernel)) (by decide +kernel) : Cond.initialized (yX9_isHolding).cls ∈ tbG), by decide +kernel, by decide +kernel, by decide +kernel, by decide +kernel⟩
theorem mc_X9_isYes : Cond.code yX9_isYes cX9_isYes 1 (some .boolean) ∈ tbG := tbG_of (List.mem_of_getElem? (i := 501) (by decide +kernel)) (by decide +kernel)
theorem md_X9_isYes : Cond.code yX9_isYes cX9_isYes 1 (some .boolean) ∈ tbG ∧ Cond.static yX9_isYes ∈ tbG ∧ Cond.initialized (yX9_isYes).cls ∈ tbG ∧ plainName (yX9_isYes).cls = true ∧ (yX9_isYes).cls ≠ "java/lang/invoke/MethodHandle" ∧ (yX9_isYes).cls ≠ "java/lang/invoke/VarHandle" ∧ (parseMethodDescriptor (yX9_isYes).desc).map (fun d => d.parameters.length) = some 1 := ⟨mc_X9_isYes, (tbG_of (List.mem_of_getElem? (i := 500) (by decide +kernel)) (by decide +kernel) : Cond.static yX9_isYes ∈ tbG), (tbG_of (List.mem_of_getElem? (i := 46) (by decide +kernel)) (by decide +kernel) : Cond.initialized (yX9_isYes).cls ∈ tbG), by decide +kernel, by decide +kernel, by decide +kernel, by decide +kernel⟩
theorem mc_X9_join : Cond.code yX9_join cX9_join 6 (some .int) ∈ tbG := tbG_of (List.mem_of_getElem? (i := 546) (by decide +kernel)) (by decide +kernel)
theorem md_X9_join : Cond.code yX9_join cX9_join 6 (some .int) ∈ tbG ∧ Cond.instanceMethod yX9_join ∈ tbG ∧ Cond.selects (yX9_join).cls yX9_join yX9_join ∈ tbG ∧ Cond.initialized (yX9_join).cls ∈ tbG ∧ plainName (yX9_join).cls = true ∧ (yX9_join).cls ≠ "java/lang/invoke/MethodHandle" ∧ (yX9_join).cls ≠ "java/lang/invoke/VarHandle" ∧ (parseMethodDescriptor (yX9_join).desc).map (fun d => d.parameters.length) = some 4 := ⟨mc_X9_join, (tbG_of (List.mem_of_getElem? (i := 544) (by decide +kernel)) (by decide +kernel) : Cond.instanceMethod yX9_join ∈ tbG), (tbG_of (List.mem_of_getElem? (i := 545) (by decide +kernel)) (by decide +kernel) : Cond.selects (yX9_join).cls yX9_join yX9_join ∈ tbG), (tbG_of (List.mem_of_getElem? (i := 46) (by decide +kernel)) (by decide +kernel) : Cond.initialized (yX9_join).cls ∈ tbG), by decide +kernel, by decide +kernel, by decide +kernel, by decide +kernel⟩
theorem mc_X9_kept : Cond.code yX9_kept cX9_kept 3 (some .int) ∈ tbG := tbG_of (List.mem_of_getElem? (i := 481) (by decide +kernel)) (by decide +kernel)
theorem md_X9_kept : Cond.code yX9_kept cX9_kept 3 (some .int) ∈ tbG ∧ Cond.instanceMethod yX9_kept ∈ tbG ∧ Cond.selects (yX9_kept).cls yX9_kept yX9_kept ∈ tbG ∧ Cond.initialized (yX9_kept).cls ∈ tbG ∧ plainName (yX9_kept).cls = true ∧ (yX9_kept).cls ≠ "java/lang/invoke/MethodHandle" ∧ (yX9_kept).cls ≠ "java/lang/invoke/VarHandle" ∧ (parseMethodDescriptor (yX9_kept).desc).map (fun d => d.parameters.length) = some 2 := ⟨mc_X9_kept, (tbG_of (List.mem_of_getElem? (i := 479) (by decide +kernel)) (by decide +kernel) : Cond.instanceMethod yX9_kept ∈ tbG), (tbG_of (List.mem_of_getElem? (i := 480) (by decide +kernel)) (by decide +kernel) : Cond.selects (yX9_kept).cls yX9_kept yX9_kept ∈ tbG), (tbG_of (List.mem_of_getElem? (i := 46) (by decide +kernel)) (by decide +kernel) : Cond.initialized (yX9_kept).cls ∈ tbG), by decide +kernel, by decide +kernel, by decide +kernel, by decide +kernel⟩
theorem mc_X9_knowsOperands : Cond.code yX9_knowsOperands cX9_knowsOperands 5 (some .boolean) ∈ tbG := tbG_of (List.mem_of_getElem? (i := 373) (by decide +kernel)) (by decide +kernel)
theorem md_X9_knowsOperands : Cond.code yX9_knowsOperands cX9_knowsOperands 5 (some .boolean) ∈ tbG ∧ Cond.instanceMethod yX9_knowsOperands ∈ tbG ∧ Cond.selects (yX9_knowsOperands).cls yX9_knowsOperands yX9_knowsOperands ∈ tbG ∧ Cond.initialized (yX9_knowsOperands).cls ∈ tbG ∧ plainName (yX9_knowsOperands).cls = true ∧ (yX9_knowsOperands).cls ≠ "java/lang/invoke/MethodHandle" ∧ (yX9_knowsOperands).cls ≠ "java/lang/invoke/VarHandle" ∧ (parseMethodDescriptor (yX9_knowsOperands).desc).map (fun d => d.parameters.length) = some 4 := ⟨mc_X9_knowsOperands, (tbG_of (List.mem_of_getElem? (i := 372) (by decide +kernel)) (by decide +kernel) : Cond.instanceMethod yX9_knowsOperands ∈ tbG), (tbG_of (List.mem_of_getElem? (i := 1) (by decide +kernel)) (by decide +kernel) : Cond.selects (yX9_knowsOperands).cls yX9_knowsOperands yX9_knowsOperands ∈ tbG), (tbG_of (List.mem_of_getElem? (i := 46) (by decide +kernel)) (by decide +kernel) : Cond.initialized (yX9_knowsOperands).cls ∈ tbG), by decide +kernel, by decide +kernel, by decide +kernel, by decide +kernel⟩
theorem mc_X9_lockedBits : Cond.code yX9_lockedBits cX9_lockedBits 2 (some .int) ∈ tbG := tbG_of (List.mem_of_getElem? (i := 465) (by decide +kernel)) (by decide +kernel)
theorem md_X9_lockedBits : Cond.code yX9_lockedBits cX9_lockedBits 2 (some .int) ∈ tbG ∧ Cond.instanceMethod yX9_lockedBits ∈ tbG ∧ Cond.selects (yX9_lockedBits).cls yX9_lockedBits yX9_lockedBits ∈ tbG ∧ Cond.initialized (yX9_lockedBits).cls ∈ tbG ∧ plainName (yX9_lockedBits).cls = true ∧ (yX9_lockedBits).cls ≠ "java/lang/invoke/MethodHandle" ∧ (yX9_lockedBits).cls ≠ "java/lang/invoke/VarHandle" ∧ (parseMethodDescriptor (yX9_lockedBits).desc).map (fun d => d.parameters.length) = some 1 := ⟨mc_X9_lockedBits, (tbG_of (List.mem_of_getElem? (i := 464) (by decide +kernel)) (by decide +kernel) : Cond.instanceMethod yX9_lockedBits ∈ tbG), (tbG_of (List.mem_of_getElem? (i := 5) (by decide +kernel)) (by decide +kernel) : Cond.selects (yX9_lockedBits).cls yX9_lockedBits yX9_lockedBits ∈ tbG), (tbG_of (List.mem_of_getElem? (i := 46) (by decide +kernel)) (by decide +kernel) : Cond.initialized (yX9_lockedBits).cls ∈ tbG), by decide +kernel, by decide +kernel, by decide +kernel, by decide +kernel⟩
theorem mc_X9_odds : Cond.code yX9_odds cX9_odds 2 (some .int) ∈ tbG := tbG_of (List.mem_of_getElem? (i := 558) (by decide +kernel)) (by decide +kernel)
theorem md_X9_odds : Cond.code yX9_odds cX9_odds 2 (some .int) ∈ tbG ∧ Cond.instanceMethod yX9_odds ∈ tbG ∧ Cond.selects (yX9_odds).cls yX9_odds yX9_odds ∈ tbG ∧ Cond.initialized (yX9_odds).cls ∈ tbG ∧ plainName (yX9_odds).cls = true ∧ (yX9_odds).cls ≠ "java/lang/invoke/MethodHandle" ∧ (yX9_odds).cls ≠ "java/lang/invoke/VarHandle" ∧ (parseMethodDescriptor (yX9_odds).desc).map (fun d => d.parameters.length) = some 1 := ⟨mc_X9_odds, (tbG_of (List.mem_of_getElem? (i := 556) (by decide +kernel)) (by decide +kernel) : Cond.instanceMethod yX9_odds ∈ tbG), (tbG_of (List.mem_of_getElem? (i := 557) (by decide +kernel)) (by decide +kernel) : Cond.selects (yX9_odds).cls yX9_odds yX9_odds ∈ tbG), (tbG_of (List.mem_of_getElem? (i := 46) (by decide +kernel)) (by decide +kernel) : Cond.initialized (yX9_odds).cls ∈ tbG), by decide +kernel, by decide +kernel, by decide +kernel, by decide +kernel⟩
theorem mc_X9_open : Cond.code yX9_open cX9_open 3 (some .int) ∈ tbG := tbG_of (List.mem_of_getElem? (i := 573) (by decide +kernel)) (by decide +kernel)
theorem md_X9_open : Cond.code yX9_open cX9_open 3 (some .int) ∈ tbG ∧ Cond.instanceMethod yX9_open ∈ tbG ∧ Cond.selects (yX9_open).cls yX9_open yX9_open ∈ tbG ∧ Cond.initialized (yX9_open).cls ∈ tbG ∧ plainName (yX9_open).cls = true ∧ (yX9_open).cls ≠ "java/lang/invoke/MethodHandle" ∧ (yX9_open).cls ≠ "java/lang/invoke/VarHandle" ∧ (parseMethodDescriptor (yX9_open).desc).map (fun d => d.parameters.length) = some 1 := ⟨mc_X9_open, (tbG_of (List.mem_of_getElem? (i := 571) (by decide +kernel)) (by decide +kernel) : Cond.instanceMethod yX9_open ∈ tbG), (tbG_of (List.mem_of_getElem? (i := 572) (by decide +kernel)) (by decide +kernel) : Cond.selects (yX9_open).cls yX9_open yX9_open ∈ tbG), (tbG_of (List.mem_of_getElem? (i := 46) (by decide +kernel)) (by decide +kernel) : Cond.initialized (yX9_open).cls ∈ tbG), by decide +kernel, by decide +kernel, by decide +kernel, by decide +kernel⟩
theorem mc_X9_part : Cond.code yX9_part cX9_part 6 (some .int) ∈ tbG := tbG_of (List.mem_of_getElem? (i := 369) (by decide +kernel)) (by decide +kernel)
theorem md_X9_part : Cond.code yX9_part cX9_part 6 (some .int) ∈ tbG ∧ Cond.instanceMethod yX9_part ∈ tbG ∧ Cond.selects (yX9_part).cls yX9_part yX9_part ∈ tbG ∧ Cond.initialized (yX9_part).cls ∈ tbG ∧ plainName (yX9_part).cls = true ∧ (yX9_part).cls ≠ "java/lang/invoke/MethodHandle" ∧ (yX9_part).cls ≠ "java/lang/invoke/VarHandle" ∧ (parseMethodDescriptor (yX9_part).desc).map (fun d => d.parameters.length) = some 4 := ⟨mc_X9_part, (tbG_of (List.mem_of_getElem? (i := 367) (by decide +kernel)) (by decide +kernel) : Cond.instanceMethod yX9_part ∈ tbG), (tbG_of (List.mem_of_getElem? (i := 368) (by decide +kernel)) (by decide +kernel) : Cond.selects (yX9_part).cls yX9_part yX9_part ∈ tbG), (tbG_of (List.mem_of_getElem? (i := 46) (by decide +kernel)) (by decide +kernel) : Cond.initialized (yX9_part).cls ∈ tbG), by decide +kernel, by decide +kernel, by decide +kernel, by decide +kernel⟩
theorem mc_X9_reach : Cond.code yX9_reach cX9_reach 2 (some .int) ∈ tbG := tbG_of (List.mem_of_getElem? (i := 593) (by decide +kernel)) (by decide +kernel)
theorem md_X9_reach : Cond.code yX9_reach cX9_reach 2 (some .int) ∈ tbG ∧ Cond.instanceMethod yX9_reach ∈ tbG ∧ Cond.selects (yX9_reach).cls yX9_reach yX9_reach ∈ tbG ∧ Cond.initialized (yX9_reach).cls ∈ tbG ∧ plainName (yX9_reach).cls = true ∧ (yX9_reach).cls ≠ "java/lang/invoke/MethodHandle" ∧ (yX9_reach).cls ≠ "java/lang/invoke/VarHandle" ∧ (parseMethodDescriptor (yX9_reach).desc).map (fun d => d.parameters.length) = some 1 := ⟨mc_X9_reach, (tbG_of (List.mem_of_getElem? (i := 591) (by decide +kernel)) (by decide +kernel) : Cond.instanceMethod yX9_reach ∈ tbG), (tbG_of (List.mem_of_getElem? (i := 592) (by decide +kernel)) (by decide +kernel) : Cond.selects (yX9_reach).cls yX9_reach yX9_reach ∈ tbG), (tbG_of (List.mem_of_getElem? (i := 46) (by decide +kernel)) (by decide +kernel) : Cond.initialized (yX9_reach).cls ∈ tbG), by decide +kernel, by decide +kernel, by decide +kernel, by decide +kernel⟩
theorem mc_X9_ring : Cond.code yX9_ring cX9_ring 2 (some .int) ∈ tbG := tbG_of (List.mem_of_getElem? (i := 428) (by decide +kernel)) (by decide +kernel)
theorem md_X9_ring : Cond.code yX9_ring cX9_ring 2 (some .int) ∈ tbG ∧ Cond.instanceMethod yX9_ring ∈ tbG ∧ Cond.selects (yX9_ring).cls yX9_ring yX9_ring ∈ tbG ∧ Cond.initialized (yX9_ring).cls ∈ tbG ∧ plainName (yX9_ring).cls = true ∧ (yX9_ring).cls ≠ "java/lang/invoke/MethodHandle" ∧ (yX9_ring).cls ≠ "java/lang/invoke/VarHandle" ∧ (parseMethodDescriptor (yX9_ring).desc).map (fun d => d.parameters.length) = some 1 := ⟨mc_X9_ring, (tbG_of (List.mem_of_getElem? (i := 426) (by decide +kernel)) (by decide +kernel) : Cond.instanceMethod yX9_ring ∈ tbG), (tbG_of (List.mem_of_getElem? (i := 427) (by decide +kernel)) (by decide +kernel) : Cond.selects (yX9_ring).cls yX9_ring yX9_ring ∈ tbG), (tbG_of (List.mem_of_getElem? (i := 46) (by decide +kernel)) (by decide +kernel) : Cond.initialized (yX9_ring).cls ∈ tbG), by decide +kernel, by decide +kernel, by decide +kernel, by decide +kernel⟩
theorem mc_X9_rule : Cond.code yX9_rule cX9_rule 5 (some .int) ∈ tbG := tbG_of (List.mem_of_getElem? (i := 395) (by decide +kernel)) (by decide +kernel)
theorem md_X9_rule : Cond.code yX9_rule cX9_rule 5 (some .int) ∈ tbG ∧ Cond.instanceMethod yX9_rule ∈ tbG ∧ Cond.selects (yX9_rule).cls yX9_rule yX9_rule ∈ tbG ∧ Cond.initialized (yX9_rule).cls ∈ tbG ∧ plainName (yX9_rule).cls = true ∧ (yX9_rule).cls ≠ "java/lang/invoke/MethodHandle" ∧ (yX9_rule).cls ≠ "java/lang/invoke/VarHandle" ∧ (parseMethodDescriptor (yX9_rule).desc).map (fun d => d.parameters.length) = some 3 := ⟨mc_X9_rule, (tbG_of (List.mem_of_getElem? (i := 393) (by decide +kernel)) (by decide +kernel) : Cond.instanceMethod yX9_rule ∈ tbG), (tbG_of (List.mem_of_getElem? (i := 394) (by decide +kernel)) (by decide +kernel) : Cond.selects (yX9_rule).cls yX9_rule yX9_rule ∈ tbG), (tbG_of (List.mem_of_getElem? (i := 46) (by decide +kernel)) (by decide +kernel) : Cond.initialized (yX9_rule).cls ∈ tbG), by decide +kernel, by decide +kernel, by decide +kernel, by decide +kernel⟩
theorem mc_X9_seal : Cond.code yX9_seal cX9_seal 3 (some .int) ∈ tbG := tbG_of (List.mem_of_getElem? (i := 562) (by decide +kernel)) (by decide +kernel)
theorem md_X9_seal : Cond.code yX9_seal cX9_seal 3 (some .int) ∈ tbG ∧ Cond.instanceMethod yX9_seal ∈ tbG ∧ Cond.selects (yX9_seal).cls yX9_seal yX9_seal ∈ tbG ∧ Cond.initialized (yX9_seal).cls ∈ tbG ∧ plainName (yX9_seal).cls = true ∧ (yX9_seal).cls ≠ "java/lang/invoke/MethodHandle" ∧ (yX9_seal).cls ≠ "java/lang/invoke/VarHandle" ∧ (parseMethodDescriptor (yX9_seal).desc).map (fun d => d.parameters.length) = some 2 := ⟨mc_X9_seal, (tbG_of (List.mem_of_getElem? (i := 560) (by decide +kernel)) (by decide +kernel) : Cond.instanceMethod yX9_seal ∈ tbG), (tbG_of (List.mem_of_getElem? (i := 561) (by decide +kernel)) (by decide +kernel) : Cond.selects (yX9_seal).cls yX9_seal yX9_seal ∈ tbG), (tbG_of (List.mem_of_getElem? (i := 46) (by decide +kernel)) (by decide +kernel) : Cond.initialized (yX9_seal).cls ∈ tbG), by decide +kernel, by decide +kernel, by decide +kernel, by decide +kernel⟩
theorem mc_X9_sealed : Cond.code yX9_sealed cX9_sealed 3 (some .int) ∈ tbG := tbG_of (List.mem_of_getElem? (i := 581) (by decide +kernel)) (by decide +kernel)
theorem md_X9_sealed : Cond.code yX9_sealed cX9_sealed 3 (some .int) ∈ tbG ∧ Cond.instanceMethod yX9_sealed ∈ tbG ∧ Cond.selects (yX9_sealed).cls yX9_sealed yX9_sealed ∈ tbG ∧ Cond.initialized (yX9_sealed).cls ∈ tbG ∧ plainName (yX9_sealed).cls = true ∧ (yX9_sealed).cls ≠ "java/lang/invoke/MethodHandle" ∧ (yX9_sealed).cls ≠ "java/lang/invoke/VarHandle" ∧ (parseMethodDescriptor (yX9_sealed).desc).map (fun d => d.parameters.length) = some 2 := ⟨mc_X9_sealed, (tbG_of (List.mem_of_getElem? (i := 579) (by decide +kernel)) (by decide +kernel) : Cond.instanceMethod yX9_sealed ∈ tbG), (tbG_of (List.mem_of_getElem? (i := 580) (by decide +kernel)) (by decide +kernel) : Cond.selects (yX9_sealed).cls yX9_sealed yX9_sealed ∈ tbG), (tbG_of (List.mem_of_getElem? (i := 46) (by decide +kernel)) (by decide +kernel) : Cond.initialized (yX9_sealed).cls ∈ tbG), by decide +kernel, by decide +kernel, by decide +kernel, by decide +kernel⟩
theorem mc_X9_status : Cond.code yX9_status cX9_status 3 (some .int) ∈ tbG := tbG_of (List.mem_of_getElem? (i := 526) (by decide +kernel)) (by decide +kernel)
theorem md_X9_status : Cond.code yX9_status cX9_status 3 (some .int) ∈ tbG ∧ Cond.instanceMethod yX9_status ∈ tbG ∧ Cond.selects (yX9_status).cls yX9_status yX9_status ∈ tbG ∧ Cond.initialized (yX9_status).cls ∈ tbG ∧ plainName (yX9_status).cls = true ∧ (yX9_status).cls ≠ "java/lang/invoke/MethodHandle" ∧ (yX9_status).cls ≠ "java/lang/invoke/VarHandle" ∧ (parseMethodDescriptor (yX9_status).desc).map (fun d => d.parameters.length) = some 2 := ⟨mc_X9_status, (tbG_of (List.mem_of_getElem? (i := 524) (by decide +kernel)) (by decide +kernel) : Cond.instanceMethod yX9_status ∈ tbG), (tbG_of (List.mem_of_getElem? (i := 525) (by decide +kernel)) (by decide +kernel) : Cond.selects (yX9_status).cls yX9_status yX9_status ∈ tbG), (tbG_of (List.mem_of_getElem? (i := 46) (by decide +kernel)) (by decide +kernel) : Cond.initialized (yX9_status).cls ∈ tbG), by decide +kernel, by decide +kernel, by decide +kernel, by decide +kernel⟩
theorem mc_X9_tell : Cond.code yX9_tell cX9_tell 2 (some .int) ∈ tbG := tbG_of (List.mem_of_getElem? (i := 640) (by decide +kernel)) (by decide +kernel)
theorem md_X9_tell : Cond.code yX9_tell cX9_tell 2 (some .int) ∈ tbG ∧ Cond.instanceMethod yX9_tell ∈ tbG ∧ Cond.selects (yX9_tell).cls yX9_tell yX9_tell ∈ tbG ∧ Cond.initialized (yX9_tell).cls ∈ tbG ∧ plainName (yX9_tell).cls = true ∧ (yX9_tell).cls ≠ "java/lang/invoke/MethodHandle" ∧ (yX9_tell).cls ≠ "java/lang/invoke/VarHandle" ∧ (parseMethodDescriptor (yX9_tell).desc).map (fun d => d.parameters.length) = some 1 := ⟨mc_X9_tell, (tbG_of (List.mem_of_getElem? (i := 638) (by decide +kernel)) (by decide +kernel) : Cond.instanceMethod yX9_tell ∈ tbG), (tbG_of (List.mem_of_getElem? (i := 639) (by decide +kernel)) (by decide +kernel) : Cond.selects (yX9_tell).cls yX9_tell yX9_tell ∈ tbG), (tbG_of (List.mem_of_getElem? (i := 46) (by decide +kernel)) (by decide +kernel) : Cond.initialized (yX9_tell).cls ∈ tbG), by decide +kernel, by decide +kernel, by decide +kernel, by decide +kernel⟩
theorem mc_X9_told : Cond.code yX9_told cX9_told 2 (some .int) ∈ tbG := tbG_of (List.mem_of_getElem? (i := 628) (by decide +kernel)) (by decide +kernel)
theorem md_X9_told : Cond.code yX9_told cX9_told 2 (some .int) ∈ tbG ∧ Cond.instanceMethod yX9_told ∈ tbG ∧ Cond.selects (yX9_told).cls yX9_told yX9_told ∈ tbG ∧ Cond.initialized (yX9_told).cls ∈ tbG ∧ plainName (yX9_told).cls = true ∧ (yX9_told).cls ≠ "java/lang/invoke/MethodHandle" ∧ (yX9_told).cls ≠ "java/lang/invoke/VarHandle" ∧ (parseMethodDescriptor (yX9_told).desc).map (fun d => d.parameters.length) = some 1 := ⟨mc_X9_told, (tbG_of (List.mem_of_getElem? (i := 626) (by decide +kernel)) (by decide +kernel) : Cond.instanceMethod yX9_told ∈ tbG), (tbG_of (List.mem_of_getElem? (i := 627) (by decide +kernel)) (by decide +kernel) : Cond.selects (yX9_told).cls yX9_told yX9_told ∈ tbG), (tbG_of (List.mem_of_getElem? (i := 46) (by decide +kernel)) (by decide +kernel) : Cond.initialized (yX9_told).cls ∈ tbG), by decide +kernel, by decide +kernel, by decide +kernel, by decide +kernel⟩
theorem mc_X9_trace : Cond.code yX9_trace cX9_trace 1 (some .int) ∈ tbG := tbG_of (List.mem_of_getElem? (i := 684) (by decide +kernel)) (by decide +kernel)
theorem md_X9_trace : Cond.code yX9_trace cX9_trace 1 (some .int) ∈ tbG ∧ Cond.instanceMethod yX9_trace ∈ tbG ∧ Cond.selects (yX9_trace).cls yX9_trace yX9_trace ∈ tbG ∧ Cond.initialized (yX9_trace).cls ∈ tbG ∧ plainName (yX9_trace).cls = true ∧ (yX9_trace).cls ≠ "java/lang/invoke/MethodHandle" ∧ (yX9_trace).cls ≠ "java/lang/invoke/VarHandle" ∧ (parseMethodDescriptor (yX9_trace).desc).map (fun d => d.parameters.length) = some 0 := ⟨mc_X9_trace, (tbG_of (List.mem_of_getElem? (i := 682) (by decide +kernel)) (by decide +kernel) : Cond.instanceMethod yX9_trace ∈ tbG), (tbG_of (List.mem_of_getElem? (i := 683) (by decide +kernel)) (by decide +kernel) : Cond.selects (yX9_trace).cls yX9_trace yX9_trace ∈ tbG), (tbG_of (List.mem_of_getElem? (i := 46) (by decide +kernel)) (by decide +kernel) : Cond.initialized (yX9_trace).cls ∈ tbG), by decide +kernel, by decide +kernel, by decide +kernel, by decide +kernel⟩
theorem mc_X9_tried : Cond.code yX9_tried cX9_tried 1 (some .int) ∈ tbG := tbG_of (List.mem_of_getElem? (i := 624) (by decide +kernel)) (by decide +kernel)
theorem md_X9_tried : Cond.code yX9_tried cX9_tried 1 (some .int) ∈ tbG ∧ Cond.instanceMethod yX9_tried ∈ tbG ∧ Cond.selects (yX9_tried).cls yX9_tried yX9_tried ∈ tbG ∧ Cond.initialized (yX9_tried).cls ∈ tbG ∧ plainName (yX9_tried).cls = true ∧ (yX9_tried).cls ≠ "java/lang/invoke/MethodHandle" ∧ (yX9_tried).cls ≠ "java/lang/invoke/VarHandle" ∧ (parseMethodDescriptor (yX9_tried).desc).map (fun d => d.parameters.length) = some 0 := ⟨mc_X9_tried, (tbG_of (List.mem_of_getElem? (i := 622) (by decide +kernel)) (by decide +kernel) : Cond.instanceMethod yX9_tried ∈ tbG), (tbG_of (List.mem_of_getElem? (i := 623) (by decide +kernel)) (by decide +kernel) : Cond.selects (yX9_tried).cls yX9_tried yX9_tried ∈ tbG), (tbG_of (List.mem_of_getElem? (i := 46) (by decide +kernel)) (by decide +kernel) : Cond.initialized (yX9_tried).cls ∈ tbG), by decide +kernel, by decide +kernel, by decide +kernel, by decide +kernel⟩
theorem mc_X9_truth : Cond.code yX9_truth cX9_truth 1 (some .int) ∈ tbG := tbG_of (List.mem_of_getElem? (i := 440) (by decide +kernel)) (by decide +kernel)
theorem md_X9_truth : Cond.code yX9_truth cX9_truth 1 (some .int) ∈ tbG ∧ Cond.static yX9_truth ∈ tbG ∧ Cond.initialized (yX9_truth).cls ∈ tbG ∧ plainName (yX9_truth).cls = true ∧ (yX9_truth).cls ≠ "java/lang/invoke/MethodHandle" ∧ (yX9_truth).cls ≠ "java/lang/invoke/VarHandle" ∧ (parseMethodDescriptor (yX9_truth).desc).map (fun d => d.parameters.length) = some 1 := ⟨mc_X9_truth, (tbG_of (List.mem_of_getElem? (i := 439) (by decide +kernel)) (by decide +kernel) : Cond.static yX9_truth ∈ tbG), (tbG_of (List.mem_of_getElem? (i := 46) (by decide +kernel)) (by decide +kernel) : Cond.initialized (yX9_truth).cls ∈ tbG), by decide +kernel, by decide +kernel, by decide +kernel, by decide +kernel⟩
theorem mc_X9_value : Cond.code yX9_value cX9_value 3 (some .int) ∈ tbG := tbG_of (List.mem_of_getElem? (i := 538) (by decide +kernel)) (by decide +kernel)
theorem md_X9_value : Cond.code yX9_value cX9_value 3 (some .int) ∈ tbG ∧ Cond.instanceMethod yX9_value ∈ tbG ∧ Cond.selects (yX9_value).cls yX9_value yX9_value ∈ tbG ∧ Cond.initialized (yX9_value).cls ∈ tbG ∧ plainName (yX9_value).cls = true ∧ (yX9_value).cls ≠ "java/lang/invoke/MethodHandle" ∧ (yX9_value).cls ≠ "java/lang/invoke/VarHandle" ∧ (parseMethodDescriptor (yX9_value).desc).map (fun d => d.parameters.length) = some 2 := ⟨mc_X9_value, (tbG_of (List.mem_of_getElem? (i := 536) (by decide +kernel)) (by decide +kernel) : Cond.instanceMethod yX9_value ∈ tbG), (tbG_of (List.mem_of_getElem? (i := 537) (by decide +kernel)) (by decide +kernel) : Cond.selects (yX9_value).cls yX9_value yX9_value ∈ tbG), (tbG_of (List.mem_of_getElem? (i := 46) (by decide +kernel)) (by decide +kernel) : Cond.initialized (yX9_value).cls ∈ tbG), by decide +kernel, by decide +kernel, by decide +kernel, by decide +kernel⟩
theorem lk_L_13 : LkV RL 13 yX9_field cX9_field 5 (some .int) 3 := ⟨tbG_of (List.mem_of_getElem? (i := 336) (by decide +kernel)) (by decide +kernel), md_X9_field⟩
theorem lk_L_17 : LkV RL 17 yX10_field cX10_field 5 (some .int) 3 := ⟨tbG_of (List.mem_of_getElem? (i := 796) (by decide +kernel)) (by decide +kernel), md_X10_field⟩
theorem lk_L_18 : LkV RL 18 yX9_part cX9_part 6 (some .int) 4 := ⟨tbG_of (List.mem_of_getElem? (i := 366) (by decide +kernel)) (by decide +kernel), md_X9_part⟩
theorem lk_L_22 : LkV RL 22 yX10_part cX10_part 6 (some .int) 4 := ⟨tbG_of (List.mem_of_getElem? (i := 803) (by decide +kernel)) (by decide +kernel), md_X10_part⟩
theorem lk_L_23 : LkV RL 23 yX9_rule cX9_rule 5 (some .int) 3 := ⟨tbG_of (List.mem_of_getElem? (i := 392) (by decide +kernel)) (by decide +kernel), md_X9_rule⟩
theorem lk_L_26 : LkV RL 26 yX10_rule cX10_rule 5 (some .int) 3 := ⟨tbG_of (List.mem_of_getElem? (i := 823) (by decide +kernel)) (by decide +kernel), md_X10_rule⟩
theorem lk_L_27 : LkV RL 27 yX9_ring cX9_ring 2 (some .int) 1 := ⟨tbG_of (List.mem_of_getElem? (i := 425) (by decide +kernel)) (by decide +kernel), md_X9_ring⟩
theorem lk_L_31 : LkV RL 31 yX10_ring cX10_ring 2 (some .int) 1 := ⟨tbG_of (List.mem_of_getElem? (i := 851) (by decide +kernel)) (by decide +kernel), md_X10_ring⟩
theorem lk_L_32 : LkV RL 32 yX9_about cX9_about 3 (some .int) 2 := ⟨tbG_of (List.mem_of_getElem? (i := 429) (by decide +kernel)) (by decide +kernel), md_X9_about⟩
theorem lk_L_36 : LkV RL 36 yX10_about cX10_about 3 (some .int) 2 := ⟨tbG_of (List.mem_of_getElem? (i := 855) (by decide +kernel)) (by decide +kernel), md_X10_about⟩
theorem lk_L_37 : LkV RL 37 yX9_hangs cX9_hangs 3 (some .int) 2 := ⟨tbG_of (List.mem_of_getElem? (i := 441) (by decide +kernel)) (by decide +kernel), md_X9_hangs⟩
theorem lk_L_40 : LkV RL 40 yX10_hangs cX10_hangs 3 (some .int) 2 := ⟨tbG_of (List.mem_of_getElem? (i := 870) (by decide +kernel)) (by decide +kernel), md_X10_hangs⟩
theorem lk_L_41 : LkV RL 41 yX9_answer cX9_answer 4 (some .int) 3 := ⟨tbG_of (List.mem_of_getElem? (i := 446) (by decide +kernel)) (by decide +kernel), md_X9_answer⟩
theorem lk_L_44 : LkV RL 44 yX10_answer cX10_answer 4 (some .int) 3 := ⟨tbG_of (List.mem_of_getElem? (i := 874) (by decide +kernel)) (by decide +kernel), md_X10_answer⟩
theorem lk_L_45 : LkV RL 45 yX9_clear cX9_clear 4 (some .int) 2 := ⟨tbG_of (List.mem_of_getElem? (i := 474) (by decide +kernel)) (by decide +kernel), md_X9_clear⟩
theorem lk_L_48 : LkV RL 48 yX10_clear cX10_clear 4 (some .int) 2 := ⟨tbG_of (List.mem_of_getElem? (i := 885) (by decide +kernel)) (by decide +kernel), md_X10_clear⟩
theorem lk_L_49 : LkV RL 49 yX9_kept cX9_kept 3 (some .int) 2 := ⟨tbG_of (List.mem_of_getElem? (i := 478) (by decide +kernel)) (by decide +kernel), md_X9_kept⟩
theorem lk_L_52 : LkV RL 52 yX10_kept cX10_kept 4 (some .int) 2 := ⟨tbG_of (List.mem_of_getElem? (i := 889) (by decide +kernel)) (by decide +kernel), md_X10_kept⟩
theorem lk_L_53 : LkV RL 53 yX9_counts cX9_counts 3 (some .int) 2 := ⟨tbG_of (List.mem_of_getElem? (i := 519) (by decide +kernel)) (by decide +kernel), md_X9_counts⟩
theorem lk_L_56 : LkV RL 56 yX10_counts cX10_counts 3 (some .int) 2 := ⟨tbG_of (List.mem_of_getElem? (i := 922) (by decide +kernel)) (by decide +kernel), md_X10_counts⟩
theorem lk_L_57 : LkV RL 57 yX9_status cX9_status 3 (some .int) 2 := ⟨tbG_of (List.mem_of_getElem? (i := 523) (by decide +kernel)) (by decide +kernel), md_X9_status⟩
theorem lk_L_60 : LkV RL 60 yX10_status cX10_status 3 (some .int) 2 := ⟨tbG_of (List.mem_of_getElem? (i := 926) (by decide +kernel)) (by decide +kernel), md_X10_status⟩
theorem lk_L_61 : LkV RL 61 yX9_done cX9_done 4 (some .int) 1 := ⟨tbG_of (List.mem_of_getElem? (i := 531) (by decide +kernel)) (by decide +kernel), md_X9_done⟩
theorem lk_L_64 : LkV RL 64 yX10_done cX10_done 4 (some .int) 1 := ⟨tbG_of (List.mem_of_getElem? (i := 934) (by decide +kernel)) (by decide +kernel), md_X10_done⟩
theorem lk_L_65 : LkV RL 65 yX9_value cX9_value 3 (some .int) 2 := ⟨tbG_of (List.mem_of_getElem? (i := 535) (by decide +kernel)) (by decide +kernel), md_X9_value⟩
theorem lk_L_68 : LkV RL 68 yX10_value cX10_value 3 (some .int) 2 := ⟨tbG_of (List.mem_of_getElem? (i := 938) (by decide +kernel)) (by decide +kernel), md_X10_value⟩
theorem lk_L_69 : LkV RL 69 yX9_copy cX9_copy 5 (some .int) 2 := ⟨tbG_of (List.mem_of_getElem? (i := 539) (by decide +kernel)) (by decide +kernel), md_X9_copy⟩
theorem lk_L_72 : LkV RL 72 yX10_copy cX10_copy 5 (some .int) 2 := ⟨tbG_of (List.mem_of_getElem? (i := 942) (by decide +kernel)) (by decide +kernel), md_X10_copy⟩
theorem lk_L_73 : LkV RL 73 yX9_join cX9_join 6 (some .int) 4 := ⟨tbG_of (List.mem_of_getElem? (i := 543) (by decide +kernel)) (by decide +kernel), md_X9_join⟩
theorem lk_L_76 : LkV RL 76 yX10_join cX10_join 9 (some .int) 4 := ⟨tbG_of (List.mem_of_getElem? (i := 950) (by decide +kernel)) (by decide +kernel), md_X10_join⟩
theorem lk_L_77 : LkV RL 77 yX9_odds cX9_odds 2 (some .int) 1 := ⟨tbG_of (List.mem_of_getElem? (i := 555) (by decide +kernel)) (by decide +kernel), md_X9_odds⟩
theorem lk_L_80 : LkV RL 80 yX10_odds cX10_odds 2 (some .int) 1 := ⟨tbG_of (List.mem_of_getElem? (i := 954) (by decide +kernel)) (by decide +kernel), md_X10_odds⟩
theorem lk_L_81 : LkV RL 81 yX9_seal cX9_seal 3 (some .int) 2 := ⟨tbG_of (List.mem_of_getElem? (i := 559) (by decide +kernel)) (by decide +kernel), md_X9_seal⟩
theorem lk_L_84 : LkV RL 84 yX10_seal cX10_seal 5 (some .int) 2 := ⟨tbG_of (List.mem_of_getElem? (i := 958) (by decide +kernel)) (by decide +kernel), md_X10_seal⟩
theorem lk_L_85 : LkV RL 85 yX9_open cX9_open 3 (some .int) 1 := ⟨tbG_of (List.mem_of_getElem? (i := 570) (by decide +kernel)) (by decide +kernel), md_X9_open⟩
theorem lk_L_88 : LkV RL 88 yX10_open cX10_open 3 (some .int) 1 := ⟨tbG_of (List.mem_of_getElem? (i := 962) (by decide +kernel)) (by decide +kernel), md_X10_open⟩
theorem lk_L_89 : LkV RL 89 yX9_sealed cX9_sealed 3 (some .int) 2 := ⟨tbG_of (List.mem_of_getElem? (i := 578) (by decide +kernel)) (by decide +kernel), md_X9_sealed⟩
theorem lk_L_92 : LkV RL 92 yX10_sealed cX10_sealed 3 (some .int) 2 := ⟨tbG_of (List.mem_of_getElem? (i := 970) (by decide +kernel)) (by decide +kernel), md_X10_sealed⟩
theorem lk_L_93 : LkV RL 93 yX9_reach cX9_reach 2 (some .int) 1 := ⟨tbG_of (List.mem_of_getElem? (i := 590) (by decide +kernel)) (by decide +kernel), md_X9_reach⟩
theorem lk_L_96 : LkV RL 96 yX10_reach cX10_reach 7 (some .int) 1 := ⟨tbG_of (List.mem_of_getElem? (i := 978) (by decide +kernel)) (by decide +kernel), md_X10_reach⟩
theorem lk_L_97 : LkV RL 97 yX9_found cX9_found 2 (some .int) 1 := ⟨tbG_of (List.mem_of_getElem? (i := 617) (by decide +kernel)) (by decide +kernel), md_X9_found⟩
theorem lk_L_100 : LkV RL 100 yX10_found cX10_found 2 (some .int) 1 := ⟨tbG_of (List.mem_of_getElem? (i := 992) (by decide +kernel)) (by decide +kernel), md_X10_found⟩
theorem lk_L_101 : LkV RL 101 yX9_tried cX9_tried 1 (some .int) 0 := ⟨tbG_of (List.mem_of_getElem? (i := 621) (by decide +kernel)) (by decide +kernel), md_X9_tried⟩
theorem lk_L_105 : LkV RL 105 yX10_tried cX10_tried 1 (some .int) 0 := ⟨tbG_of (List.mem_of_getElem? (i := 996) (by decide +kernel)) (by decide +kernel), md_X10_tried⟩
theorem lk_L_106 : LkV RL 106 yX9_told cX9_told 2 (some .int) 1 := ⟨tbG_of (List.mem_of_getElem? (i := 625) (by decide +kernel)) (by decide +kernel), md_X9_told⟩
theorem lk_L_109 : LkV RL 109 yX10_told cX10_told 4 (some .int) 1 := ⟨tbG_of (List.mem_of_getElem? (i := 1000) (by decide +kernel)) (by decide +kernel), md_X10_told⟩
theorem lk_L_110 : LkV RL 110 yX9_tell cX9_tell 2 (some .int) 1 := ⟨tbG_of (List.mem_of_getElem? (i := 637) (by decide +kernel)) (by decide +kernel), md_X9_tell⟩
theorem lk_L_113 : LkV RL 113 yX10_tell cX10_tell 4 (some .int) 1 := ⟨tbG_of (List.mem_of_getElem? (i := 1008) (by decide +kernel)) (by decide +kernel), md_X10_tell⟩
theorem lk_L_114 : LkV RL 114 yX9_address cX9_address 2 (some .int) 1 := ⟨tbG_of (List.mem_of_getElem? (i := 665) (by decide +kernel)) (by decide +kernel), md_X9_address⟩
theorem lk_L_117 : LkV RL 117 yX10_address cX10_address 2 (some .int) 1 := ⟨tbG_of (List.mem_of_getElem? (i := 1016) (by decide +kernel)) (by decide +kernel), md_X10_address⟩
theorem lk_L_118 : LkV RL 118 yX9_trace cX9_trace 1 (some .int) 0 := ⟨tbG_of (List.mem_of_getElem? (i := 681) (by decide +kernel)) (by decide +kernel), md_X9_trace⟩
theorem lk_L_121 : LkV RL 121 yX10_trace cX10_trace 1 (some .int) 0 := ⟨tbG_of (List.mem_of_getElem? (i := 1020) (by decide +kernel)) (by decide +kernel), md_X10_trace⟩
theorem lk_X0_37 : LkS RX0 37 yJ7_fill_53178 cJ7_fill_53178 4 none 2 := ⟨tbG_of (List.mem_of_getElem? (i := 344) (by decide +kernel)) (by decide +kernel), md_J7_fill_53178⟩
theorem lk_X0_43 : LkN RX0 43 yX9_hasBit "ThinkingForm" cX9_hasBit 2 (some .boolean) 2 := ⟨List.mem_of_getElem? (i := 9) (by decide +kernel), md_X9_hasBit⟩
theorem lk_X0_47 : LkN RX0 47 yX9_truth "ThinkingForm" cX9_truth 1 (some .int) 1 := ⟨List.mem_of_getElem? (i := 11) (by decide +kernel), md_X9_truth⟩
theorem lk_X10_99 : LkS RX10 99 yX10_in cX10_in 3 (some .boolean) 3 := ⟨tbG_of (List.mem_of_getElem? (i := 800) (by decide +kernel)) (by decide +kernel), md_X10_in⟩
theorem lk_X10_106 : LkS RX10 106 yX10_partsOf cX10_partsOf 1 (some .int) 1 := ⟨tbG_of (List.mem_of_getElem? (i := 807) (by decide +kernel)) (by decide +kernel), md_X10_partsOf⟩
theorem lk_X10_110 : LkS RX10 110 yX10_isOfField cX10_isOfField 1 (some .boolean) 1 := ⟨tbG_of (List.mem_of_getElem? (i := 810) (by decide +kernel)) (by decide +kernel), md_X10_isOfField⟩
theorem lk_X10_114 : LkV RX10 114 yX10_noField cX10_noField 2 (some .boolean) 1 := ⟨tbG_of (List.mem_of_getElem? (i := 813) (by decide +kernel)) (by decide +kernel), md_X10_noField⟩
theorem lk_X10_117 : LkV RX10 117 yX10_noPart cX10_noPart 2 (some .boolean) 1 := ⟨tbG_of (List.mem_of_getElem? (i := 817) (by decide +kernel)) (by decide +kernel), md_X10_noPart⟩
theorem lk_X10_122 : LkV RX10 122 yX10_reached cX10_reached 6 (some .long) 1 := ⟨tbG_of (List.mem_of_getElem? (i := 835) (by decide +kernel)) (by decide +kernel), md_X10_reached⟩
theorem lk_X10_126 : LkV RX10 126 yX10_needsOf cX10_needsOf 4 (some .long) 1 := ⟨tbG_of (List.mem_of_getElem? (i := 831) (by decide +kernel)) (by decide +kernel), md_X10_needsOf⟩
theorem lk_X10_129 : LkV RX10 129 yX10_fieldsOf cX10_fieldsOf 5 (some .int) 1 := ⟨tbG_of (List.mem_of_getElem? (i := 839) (by decide +kernel)) (by decide +kernel), md_X10_fieldsOf⟩
theorem lk_X10_133 : LkV RX10 133 yX10_findHangs cX10_findHangs 4 none 0 := ⟨tbG_of (List.mem_of_getElem? (i := 827) (by decide +kernel)) (by decide +kernel), md_X10_findHangs⟩
theorem lk_X10_136 : LkS RX10 136 yX10_count cX10_count 3 (some .int) 1 := ⟨tbG_of (List.mem_of_getElem? (i := 863) (by decide +kernel)) (by decide +kernel), md_X10_count⟩
theorem lk_X10_142 : LkV RX10 142 yX10_comesTo cX10_comesTo 7 (some .boolean) 3 := ⟨tbG_of (List.mem_of_getElem? (i := 847) (by decide +kernel)) (by decide +kernel), md_X10_comesTo⟩
theorem lk_X10_145 : LkV RX10 145 yX10_findRing cX10_findRing 5 none 1 := ⟨tbG_of (List.mem_of_getElem? (i := 843) (by decide +kernel)) (by decide +kernel), md_X10_findRing⟩
theorem lk_X10_149 : LkV RX10 149 yX10_arrange cX10_arrange 4 none 0 := ⟨tbG_of (List.mem_of_getElem? (i := 859) (by decide +kernel)) (by decide +kernel), md_X10_arrange⟩
theorem lk_X10_152 : LkV RX10 152 yX10_followers cX10_followers 4 (some .int) 1 := ⟨tbG_of (List.mem_of_getElem? (i := 866) (by decide +kernel)) (by decide +kernel), md_X10_followers⟩
theorem lk_X10_159 : LkS RX10 159 yX10_cut cX10_cut 2 (some .int) 1 := ⟨tbG_of (List.mem_of_getElem? (i := 912) (by decide +kernel)) (by decide +kernel), md_X10_cut⟩
theorem lk_X10_162 : LkS RX10 162 yX10_ofTwo cX10_ofTwo 3 (some .int) 3 := ⟨tbG_of (List.mem_of_getElem? (i := 909) (by decide +kernel)) (by decide +kernel), md_X10_ofTwo⟩
theorem lk_X10_166 : LkV RX10 166 yX10_work cX10_work 3 none 1 := ⟨tbG_of (List.mem_of_getElem? (i := 905) (by decide +kernel)) (by decide +kernel), md_X10_work⟩
theorem lk_X10_169 : LkV RX10 169 yX10_workAll cX10_workAll 4 none 1 := ⟨tbG_of (List.mem_of_getElem? (i := 901) (by decide +kernel)) (by decide +kernel), md_X10_workAll⟩
theorem lk_X10_173 : LkV RX10 173 yX10_isSo cX10_isSo 2 (some .boolean) 1 := ⟨tbG_of (List.mem_of_getElem? (i := 917) (by decide +kernel)) (by decide +kernel), md_X10_isSo⟩
theorem lk_X10_176 : LkV RX10 176 yX10_judge cX10_judge 4 none 1 := ⟨tbG_of (List.mem_of_getElem? (i := 897) (by decide +kernel)) (by decide +kernel), md_X10_judge⟩
theorem lk_X10_184 : LkV RX10 184 yX10_isLocked cX10_isLocked 5 (some .boolean) 2 := ⟨tbG_of (List.mem_of_getElem? (i := 881) (by decide +kernel)) (by decide +kernel), md_X10_isLocked⟩
theorem lk_X10_188 : LkS RX10 188 yX10_noDraft cX10_noDraft 1 (some .boolean) 1 := ⟨tbG_of (List.mem_of_getElem? (i := 878) (by decide +kernel)) (by decide +kernel), md_X10_noDraft⟩
theorem lk_X10_191 : LkV RX10 191 yX10_layDraft cX10_layDraft 3 none 1 := ⟨tbG_of (List.mem_of_getElem? (i := 893) (by decide +kernel)) (by decide +kernel), md_X10_layDraft⟩
theorem lk_X10_194 : LkV RX10 194 yX10_statusOf cX10_statusOf 4 (some .int) 1 := ⟨tbG_of (List.mem_of_getElem? (i := 930) (by decide +kernel)) (by decide +kernel), md_X10_statusOf⟩
theorem lk_X10_197 : LkV RX10 197 yX10_hasLocked cX10_hasLocked 4 (some .boolean) 1 := ⟨tbG_of (List.mem_of_getElem? (i := 946) (by decide +kernel)) (by decide +kernel), md_X10_hasLocked⟩
theorem lk_X10_203 : LkV RX10 203 yX10_noSeal cX10_noSeal 2 (some .boolean) 1 := ⟨tbG_of (List.mem_of_getElem? (i := 966) (by decide +kernel)) (by decide +kernel), md_X10_noSeal⟩
theorem lk_X10_206 : LkV RX10 206 yX10_sealHolds cX10_sealHolds 4 (some .boolean) 1 := ⟨tbG_of (List.mem_of_getElem? (i := 974) (by decide +kernel)) (by decide +kernel), md_X10_sealHolds⟩
theorem lk_X10_216 : LkV RX10 216 yX10_shows cX10_shows 4 (some .boolean) 1 := ⟨tbG_of (List.mem_of_getElem? (i := 984) (by decide +kernel)) (by decide +kernel), md_X10_shows⟩
theorem lk_X10_219 : LkV RX10 219 yX10_goesOn cX10_goesOn 4 (some .boolean) 1 := ⟨tbG_of (List.mem_of_getElem? (i := 988) (by decide +kernel)) (by decide +kernel), md_X10_goesOn⟩
theorem lk_X10_222 : LkV RX10 222 yX10_asked cX10_asked 3 (some .int) 0 := ⟨tbG_of (List.mem_of_getElem? (i := 1004) (by decide +kernel)) (by decide +kernel), md_X10_asked⟩
theorem lk_X10_229 : LkV RX10 229 yX10_traced cX10_traced 2 none 1 := ⟨tbG_of (List.mem_of_getElem? (i := 1012) (by decide +kernel)) (by decide +kernel), md_X10_traced⟩
theorem lk_X2_39 : LkV RX2 39 yX3_answersOfRule cX3_answersOfRule 2 (some .int) 1 := ⟨tbG_of (List.mem_of_getElem? (i := 400) (by decide +kernel)) (by decide +kernel), md_X3_answersOfRule⟩
theorem lk_X2_46 : LkV RX2 46 yX2_directWith cX2_directWith 6 (some .int) 3 := ⟨tbG_of (List.mem_of_getElem? (i := 419) (by decide +kernel)) (by decide +kernel), md_X2_directWith⟩
theorem lk_X2_50 : LkV RX2 50 yX0_spreadHangs cX0_spreadHangs 3 none 0 := ⟨tbG_of (List.mem_of_getElem? (i := 420) (by decide +kernel)) (by decide +kernel), md_X0_spreadHangs⟩
theorem lk_X2_53 : LkV RX2 53 yX2_arrange cX2_arrange 3 none 0 := ⟨tbG_of (List.mem_of_getElem? (i := 424) (by decide +kernel)) (by decide +kernel), md_X2_arrange⟩
theorem lk_X2_63 : LkV RX2 63 yX0_spread cX0_spread 4 (some .int) 1 := ⟨tbG_of (List.mem_of_getElem? (i := 349) (by decide +kernel)) (by decide +kernel), md_X0_spread⟩
theorem lk_X2_69 : LkS RX2 69 yJ6_bitCount_0f7a4 cJ6_bitCount_0f7a4 1 (some .int) 1 := ⟨tbG_of (List.mem_of_getElem? (i := 356) (by decide +kernel)) (by decide +kernel), md_J6_bitCount_0f7a4⟩
theorem lk_X2_74 : LkV RX2 74 yX2_addStep cX2_addStep 3 none 2 := ⟨tbG_of (List.mem_of_getElem? (i := 362) (by decide +kernel)) (by decide +kernel), md_X2_addStep⟩
theorem lk_X3_31 : LkV RX3 31 yX3_gatherAnswers cX3_gatherAnswers 2 (some .int) 1 := ⟨tbG_of (List.mem_of_getElem? (i := 388) (by decide +kernel)) (by decide +kernel), md_X3_gatherAnswers⟩
theorem lk_X4_19 : LkN RX4 19 yX9_hasBit "ThinkingForm" cX9_hasBit 2 (some .boolean) 2 := ⟨List.mem_of_getElem? (i := 10) (by decide +kernel), md_X9_hasBit⟩
theorem lk_X4_23 : LkV RX4 23 yX0_leastHanging cX0_leastHanging 4 (some .int) 2 := ⟨tbG_of (List.mem_of_getElem? (i := 411) (by decide +kernel)) (by decide +kernel), md_X0_leastHanging⟩
theorem lk_X5_34 : LkN RX5 34 yX9_hasBit "ThinkingForm" cX9_hasBit 2 (some .boolean) 2 := ⟨List.mem_of_getElem? (i := 14) (by decide +kernel), md_X9_hasBit⟩
theorem lk_X5_39 : LkV RX5 39 yX6_statusOf cX6_statusOf 3 (some .int) 2 := ⟨tbG_of (List.mem_of_getElem? (i := 569) (by decide +kernel)) (by decide +kernel), md_X6_statusOf⟩
theorem lk_X6_31 : LkV RX6 31 yX6_takeStep cX6_takeStep 4 none 3 := ⟨tbG_of (List.mem_of_getElem? (i := 486) (by decide +kernel)) (by decide +kernel), md_X6_takeStep⟩
theorem lk_X6_45 : LkV RX6 45 yX6_valueOf cX6_valueOf 2 (some .int) 1 := ⟨tbG_of (List.mem_of_getElem? (i := 513) (by decide +kernel)) (by decide +kernel), md_X6_valueOf⟩
theorem lk_X6_49 : LkN RX6 49 yX9_isYes "ThinkingForm" cX9_isYes 1 (some .boolean) 1 := ⟨List.mem_of_getElem? (i := 13) (by decide +kernel), md_X9_isYes⟩
theorem lk_X6_57 : LkV RX6 57 yX6_workOut cX6_workOut 4 (some .int) 2 := ⟨tbG_of (List.mem_of_getElem? (i := 490) (by decide +kernel)) (by decide +kernel), md_X6_workOut⟩
theorem lk_X6_65 : LkV RX6 65 yX6_takeField cX6_takeField 6 none 3 := ⟨tbG_of (List.mem_of_getElem? (i := 509) (by decide +kernel)) (by decide +kernel), md_X6_takeField⟩
theorem lk_X6_72 : LkV RX6 72 yX0_inSpan cX0_inSpan 3 (some .boolean) 2 := ⟨tbG_of (List.mem_of_getElem? (i := 517) (by decide +kernel)) (by decide +kernel), md_X0_inSpan⟩
theorem lk_X6_84 : LkN RX6 84 yX9_truth "ThinkingForm" cX9_truth 1 (some .int) 1 := ⟨List.mem_of_getElem? (i := 12) (by decide +kernel), md_X9_truth⟩
theorem lk_X6_94 : LkS RX6 94 yX6_workOutPair cX6_workOutPair 3 (some .int) 3 := ⟨tbG_of (List.mem_of_getElem? (i := 496) (by decide +kernel)) (by decide +kernel), md_X6_workOutPair⟩
theorem lk_X6_98 : LkS RX6 98 yX6_cut cX6_cut 2 (some .int) 1 := ⟨tbG_of (List.mem_of_getElem? (i := 502) (by decide +kernel)) (by decide +kernel), md_X6_cut⟩
theorem lk_X7_15 : LkV RX7 15 yX7_tellPlain cX7_tellPlain 3 (some .int) 2 := ⟨tbG_of (List.mem_of_getElem? (i := 645) (by decide +kernel)) (by decide +kernel), md_X7_tellPlain⟩
theorem lk_X7_21 : LkV RX7 21 yX7_tellNeeded cX7_tellNeeded 3 (some .int) 2 := ⟨tbG_of (List.mem_of_getElem? (i := 661) (by decide +kernel)) (by decide +kernel), md_X7_tellNeeded⟩
theorem lk_X7_28 : LkV RX7 28 yX7_addressMade cX7_addressMade 1 (some .int) 0 := ⟨tbG_of (List.mem_of_getElem? (i := 673) (by decide +kernel)) (by decide +kernel), md_X7_addressMade⟩
theorem lk_X7_32 : LkV RX7 32 yX7_addressLent cX7_addressLent 2 (some .int) 1 := ⟨tbG_of (List.mem_of_getElem? (i := 677) (by decide +kernel)) (by decide +kernel), md_X7_addressLent⟩
theorem lk_X7_40 : LkV RX7 40 yX7_tellMade cX7_tellMade 3 (some .int) 2 := ⟨tbG_of (List.mem_of_getElem? (i := 649) (by decide +kernel)) (by decide +kernel), md_X7_tellMade⟩
theorem lk_X7_43 : LkV RX7 43 yX7_tellAsked cX7_tellAsked 3 (some .int) 2 := ⟨tbG_of (List.mem_of_getElem? (i := 657) (by decide +kernel)) (by decide +kernel), md_X7_tellAsked⟩
theorem lk_X7_46 : LkV RX7 46 yX7_leave cX7_leave 2 none 1 := ⟨tbG_of (List.mem_of_getElem? (i := 653) (by decide +kernel)) (by decide +kernel), md_X7_leave⟩
theorem lk_X8_26 : LkS RX8 26 yJ7_fill_53178 cJ7_fill_53178 4 none 2 := ⟨tbG_of (List.mem_of_getElem? (i := 281) (by decide +kernel)) (by decide +kernel), md_J7_fill_53178⟩
theorem lk_X8_43 : LkV RX8 43 yX0_askedBits cX0_askedBits 3 (some .int) 0 := ⟨tbG_of (List.mem_of_getElem? (i := 598) (by decide +kernel)) (by decide +kernel), md_X0_askedBits⟩
theorem lk_X8_47 : LkS RX8 47 yX8_countRows cX8_countRows 4 (some .int) 2 := ⟨tbG_of (List.mem_of_getElem? (i := 599) (by decide +kernel)) (by decide +kernel), md_X8_countRows⟩
theorem lk_X8_51 : LkV RX8 51 yX8_listTurning cX8_listTurning 3 none 1 := ⟨tbG_of (List.mem_of_getElem? (i := 603) (by decide +kernel)) (by decide +kernel), md_X8_listTurning⟩
theorem lk_X8_55 : LkV RX8 55 yX6_look cX6_look 4 none 2 := ⟨tbG_of (List.mem_of_getElem? (i := 607) (by decide +kernel)) (by decide +kernel), md_X6_look⟩
theorem lk_X8_67 : LkV RX8 67 yX8_turnRow cX8_turnRow 5 (some .int) 1 := ⟨tbG_of (List.mem_of_getElem? (i := 608) (by decide +kernel)) (by decide +kernel), md_X8_turnRow⟩
theorem lk_X8_71 : LkV RX8 71 yX6_lookAgain cX6_lookAgain 5 none 3 := ⟨tbG_of (List.mem_of_getElem? (i := 612) (by decide +kernel)) (by decide +kernel), md_X6_lookAgain⟩
theorem lk_X8_75 : LkN RX8 75 yX9_truth "ThinkingForm" cX9_truth 1 (some .int) 1 := ⟨List.mem_of_getElem? (i := 16) (by decide +kernel), md_X9_truth⟩
theorem lk_X8_82 : LkN RX8 82 yX9_hasBit "ThinkingForm" cX9_hasBit 2 (some .boolean) 2 := ⟨List.mem_of_getElem? (i := 15) (by decide +kernel), md_X9_hasBit⟩
theorem lk_X9_74 : LkV RX9 74 yX0_add cX0_add 4 (some .int) 3 := ⟨tbG_of (List.mem_of_getElem? (i := 340) (by decide +kernel)) (by decide +kernel), md_X0_add⟩
theorem lk_X9_80 : LkV RX9 80 yX2_arrange cX2_arrange 3 none 0 := ⟨tbG_of (List.mem_of_getElem? (i := 345) (by decide +kernel)) (by decide +kernel), md_X2_arrange⟩
theorem lk_X9_83 : LkV RX9 83 yX9_knowsOperands cX9_knowsOperands 5 (some .boolean) 4 := ⟨tbG_of (List.mem_of_getElem? (i := 370) (by decide +kernel)) (by decide +kernel), md_X9_knowsOperands⟩
theorem lk_X9_93 : LkV RX9 93 yX3_add cX3_add 5 (some .int) 4 := ⟨tbG_of (List.mem_of_getElem? (i := 384) (by decide +kernel)) (by decide +kernel), md_X3_add⟩
theorem lk_X9_98 : LkV RX9 98 yX0_has cX0_has 2 (some .boolean) 1 := ⟨tbG_of (List.mem_of_getElem? (i := 374) (by decide +kernel)) (by decide +kernel), md_X0_has⟩
theorem lk_X9_102 : LkV RX9 102 yX3_has cX3_has 2 (some .boolean) 1 := ⟨tbG_of (List.mem_of_getElem? (i := 378) (by decide +kernel)) (by decide +kernel), md_X3_has⟩
theorem lk_X9_107 : LkV RX9 107 yX2_directWith cX2_directWith 6 (some .int) 3 := ⟨tbG_of (List.mem_of_getElem? (i := 396) (by decide +kernel)) (by decide +kernel), md_X2_directWith⟩
theorem lk_X9_111 : LkV RX9 111 yX0_spread cX0_spread 4 (some .int) 1 := ⟨tbG_of (List.mem_of_getElem? (i := 404) (by decide +kernel)) (by decide +kernel), md_X0_spread⟩
theorem lk_X9_115 : LkS RX9 115 yX9_hasBit cX9_hasBit 2 (some .boolean) 2 := ⟨tbG_of (List.mem_of_getElem? (i := 405) (by decide +kernel)) (by decide +kernel), md_X9_hasBit⟩
theorem lk_X9_119 : LkV RX9 119 yX4_follow cX4_follow 6 none 3 := ⟨tbG_of (List.mem_of_getElem? (i := 406) (by decide +kernel)) (by decide +kernel), md_X4_follow⟩
theorem lk_X9_123 : LkV RX9 123 yX2_setRule cX2_setRule 4 none 3 := ⟨tbG_of (List.mem_of_getElem? (i := 415) (by decide +kernel)) (by decide +kernel), md_X2_setRule⟩
theorem lk_X9_147 : LkS RX9 147 yJ6_bitCount_0f7a4 cJ6_bitCount_0f7a4 1 (some .int) 1 := ⟨tbG_of (List.mem_of_getElem? (i := 433) (by decide +kernel)) (by decide +kernel), md_J6_bitCount_0f7a4⟩
theorem lk_X9_152 : LkV RX9 152 yX0_hangersOn cX0_hangersOn 4 (some .int) 1 := ⟨tbG_of (List.mem_of_getElem? (i := 434) (by decide +kernel)) (by decide +kernel), md_X0_hangersOn⟩
theorem lk_X9_155 : LkS RX9 155 yX9_truth cX9_truth 1 (some .int) 1 := ⟨tbG_of (List.mem_of_getElem? (i := 445) (by decide +kernel)) (by decide +kernel), md_X9_truth⟩
theorem lk_X9_159 : LkV RX9 159 yX9_hasPlace cX9_hasPlace 3 (some .boolean) 2 := ⟨tbG_of (List.mem_of_getElem? (i := 450) (by decide +kernel)) (by decide +kernel), md_X9_hasPlace⟩
theorem lk_X9_162 : LkV RX9 162 yX0_inSpan cX0_inSpan 3 (some .boolean) 2 := ⟨tbG_of (List.mem_of_getElem? (i := 458) (by decide +kernel)) (by decide +kernel), md_X0_inSpan⟩
theorem lk_X9_165 : LkV RX9 165 yX9_lockedBits cX9_lockedBits 2 (some .int) 1 := ⟨tbG_of (List.mem_of_getElem? (i := 462) (by decide +kernel)) (by decide +kernel), md_X9_lockedBits⟩
theorem lk_X9_168 : LkV RX9 168 yX6_look cX6_look 4 none 2 := ⟨tbG_of (List.mem_of_getElem? (i := 482) (by decide +kernel)) (by decide +kernel), md_X6_look⟩
theorem lk_X9_172 : LkV RX9 172 yX6_valueOf cX6_valueOf 2 (some .int) 1 := ⟨tbG_of (List.mem_of_getElem? (i := 518) (by decide +kernel)) (by decide +kernel), md_X6_valueOf⟩
theorem lk_X9_178 : LkV RX9 178 yX6_statusOf cX6_statusOf 3 (some .int) 2 := ⟨tbG_of (List.mem_of_getElem? (i := 527) (by decide +kernel)) (by decide +kernel), md_X6_statusOf⟩
theorem lk_X9_182 : LkV RX9 182 yX9_hasDraft cX9_hasDraft 2 (some .boolean) 1 := ⟨tbG_of (List.mem_of_getElem? (i := 454) (by decide +kernel)) (by decide +kernel), md_X9_hasDraft⟩
theorem lk_X9_189 : LkV RX9 189 yX1_begin cX1_begin 1 none 0 := ⟨tbG_of (List.mem_of_getElem? (i := 547) (by decide +kernel)) (by decide +kernel), md_X1_begin⟩
theorem lk_X9_192 : LkV RX9 192 yX1_joinOne cX1_joinOne 5 (some .int) 4 := ⟨tbG_of (List.mem_of_getElem? (i := 551) (by decide +kernel)) (by decide +kernel), md_X1_joinOne⟩
theorem lk_X9_199 : LkV RX9 199 yX5_add cX5_add 8 (some .int) 5 := ⟨tbG_of (List.mem_of_getElem? (i := 563) (by decide +kernel)) (by decide +kernel), md_X5_add⟩
theorem lk_X9_202 : LkV RX9 202 yX5_has cX5_has 2 (some .boolean) 1 := ⟨tbG_of (List.mem_of_getElem? (i := 574) (by decide +kernel)) (by decide +kernel), md_X5_has⟩
theorem lk_X9_217 : LkV RX9 217 yX9_isHolding cX9_isHolding 2 (some .boolean) 1 := ⟨tbG_of (List.mem_of_getElem? (i := 582) (by decide +kernel)) (by decide +kernel), md_X9_isHolding⟩
theorem lk_X9_220 : LkV RX9 220 yX8_run cX8_run 5 (some .int) 2 := ⟨tbG_of (List.mem_of_getElem? (i := 594) (by decide +kernel)) (by decide +kernel), md_X8_run⟩
theorem lk_X9_231 : LkV RX9 231 yX0_askedBits cX0_askedBits 3 (some .int) 0 := ⟨tbG_of (List.mem_of_getElem? (i := 470) (by decide +kernel)) (by decide +kernel), md_X0_askedBits⟩
theorem lk_X9_236 : LkV RX9 236 yX9_countHolding cX9_countHolding 3 (some .int) 0 := ⟨tbG_of (List.mem_of_getElem? (i := 629) (by decide +kernel)) (by decide +kernel), md_X9_countHolding⟩
theorem lk_X9_239 : LkV RX9 239 yX9_countAnswers cX9_countAnswers 4 (some .int) 1 := ⟨tbG_of (List.mem_of_getElem? (i := 633) (by decide +kernel)) (by decide +kernel), md_X9_countAnswers⟩
theorem lk_X9_242 : LkV RX9 242 yX7_tellOne cX7_tellOne 3 (some .int) 2 := ⟨tbG_of (List.mem_of_getElem? (i := 641) (by decide +kernel)) (by decide +kernel), md_X7_tellOne⟩
theorem lk_X9_245 : LkV RX9 245 yX7_addressOne cX7_addressOne 3 (some .int) 2 := ⟨tbG_of (List.mem_of_getElem? (i := 669) (by decide +kernel)) (by decide +kernel), md_X7_addressOne⟩
theorem lk_X9_251 : LkV RX9 251 yX5_unbrokenBits cX5_unbrokenBits 4 (some .int) 1 := ⟨tbG_of (List.mem_of_getElem? (i := 466) (by decide +kernel)) (by decide +kernel), md_X5_unbrokenBits⟩
theorem lk_X9_254 : LkV RX9 254 yX5_agrees cX5_agrees 5 (some .boolean) 3 := ⟨tbG_of (List.mem_of_getElem? (i := 586) (by decide +kernel)) (by decide +kernel), md_X5_agrees⟩
end
section
/-! X9_hasBit -/
def rX9_hasBit : Room := { frames := 0, cells := 0, slots := 0, locals := 0 }
def FX9_hasBit (x1 : Int32) (x2 : Int32) (M : Mm) : Option Int32 :=
  (if ((x1 >>> (x2 &&& 31)) &&& 1) = 0 then some 0 else some 1)
set_option maxRecDepth 20000 in
theorem TX9_hasBit {l : Launch} {G : va_G} {tc : Nat → ClassId} {D : Nat → Nat} {x1 : Int32} {x2 : Int32} {M : Mm} {R : Int32} (h : FX9_hasBit x1 x2 M = some R) : WP l G tc D lay (fun _ => True) yX9_hasBit.cls cX9_hasBit 2 rX9_hasBit (.code yX9_hasBit cX9_hasBit 2 (some .boolean)) 0 (entL 2 [.int x1, .int x2]) [] M (RetQ cX9_hasBit (some .boolean) (RQI R M)) := by
  show WP l G tc D lay (fun _ => True) RX9 cX9_hasBit 2 rX9_hasBit (.code yX9_hasBit cX9_hasBit 2 (some .boolean)) 0 [some (.int x1), some (.int x2)] [] M (RetQ cX9_hasBit (some .boolean) (RQI R M))
  unfold FX9_hasBit at h
  refine WP.iload_n dX9_hasBit_0 rfl rfl ?_
  refine WP.iload_n dX9_hasBit_1 rfl rfl ?_
  refine WP.ishr dX9_hasBit_2 ?_
  refine WP.iconst (v := 1) dX9_hasBit_3 (by decide) ?_
  refine WP.iand dX9_hasBit_4 ?_
  refine WP.if_eq (tgt := 12) dX9_hasBit_5 (by decide) (fun c1 => ?_) (fun c1 => ?_)
  · rw [if_pos c1] at h
    refine WP.iconst (v := 0) dX9_hasBit_12 (by decide) ?_
    cases h
    exact WP.zret dX9_hasBit_13 (by decide) ⟨rfl, rfl⟩
  · rw [if_neg c1] at h
    refine WP.iconst (v := 1) dX9_hasBit_8 (by decide) ?_
    refine WP.goto (tgt := 13) dX9_hasBit_9 (by decide) ?_
    cases h
    exact WP.zret dX9_hasBit_13 (by decide) ⟨rfl, rfl⟩
/-! X9_truth -/
def rX9_truth : Room := { frames := 0, cells := 0, slots := 0, locals := 0 }
def FX9_truth (x1 : Int32) (M : Mm) : Option Int32 :=
  (if x1 = 0 then some 0 else some 1)
set_option maxRecDepth 20000 in
theorem TX9_truth {l : Launch} {G : va_G} {tc : Nat → ClassId} {D : Nat → Nat} {x1 : Int32} {M : Mm} {R : Int32} (h : FX9_truth x1 M = some R) : WP l G tc D lay (fun _ => True) yX9_truth.cls cX9_truth 1 rX9_truth (.code yX9_truth cX9_truth 1 (some .int)) 0 (entL 1 [.int x1]) [] M (RetQ cX9_truth (some .int) (RQI R M)) := by
  show WP l G tc D lay (fun _ => True) RX9 cX9_truth 1 rX9_truth (.code yX9_truth cX9_truth 1 (some .int)) 0 [some (.int x1)] [] M (RetQ cX9_truth (some .int) (RQI R M))
  unfold FX9_truth at h
  refine WP.iload_n dX9_truth_0 rfl rfl ?_
  refine WP.if_eq (tgt := 8) dX9_truth_1 (by decide) (fun c1 => ?_) (fun c1 => ?_)
  · rw [if_pos c1] at h
    refine WP.iconst (v := 0) dX9_truth_8 (by decide) ?_
    cases h
    exact WP.iret dX9_truth_9 ⟨rfl, rfl⟩
  · rw [if_neg c1] at h
    refine WP.iconst (v := 1) dX9_truth_4 (by decide) ?_
    refine WP.goto (tgt := 9) dX9_truth_5 (by decide) ?_
    cases h
    exact WP.iret dX9_truth_9 ⟨rfl, rfl⟩
/-! X9_isYes -/
def rX9_isYes : Room := { frames := 0, cells := 0, slots := 0, locals := 0 }
def FX9_isYes (x1 : Int32) (M : Mm) : Option Int32 :=
  (if x1 = (-2000000000) then some 0 else (if x1 = 0 then some 0 else some 1))
set_option maxRecDepth 20000 in
theorem TX9_isYes {l : Launch} {G : va_G} {tc : Nat → ClassId} {D : Nat → Nat} {x1 : Int32} {M : Mm} {R : Int32} (h : FX9_isYes x1 M = some R) : WP l G tc D lay (fun _ => True) yX9_isYes.cls cX9_isYes 1 rX9_isYes (.code yX9_isYes cX9_isYes 1 (some .boolean)) 0 (entL 1 [.int x1]) [] M (RetQ cX9_isYes (some .boolean) (RQI R M)) := by
  show WP l G tc D lay (fun _ => True) RX9 cX9_isYes 1 rX9_isYes (.code yX9_isYes cX9_isYes 1 (some .boolean)) 0 [some (.int x1)] [] M (RetQ cX9_isYes (some .boolean) (RQI R M))
  unfold FX9_isYes at h
  refine WP.iload_n dX9_isYes_0 rfl rfl ?_
  refine WP.ldc (v := (-2000000000)) dX9_isYes_1 wd_202 ?_
  refine WP.icmp_eq (tgt := 14) dX9_isYes_3 (by decide) (fun c1 => ?_) (fun c1 => ?_)
  · rw [if_pos c1] at h
    refine WP.iconst (v := 0) dX9_isYes_14 (by decide) ?_
    cases h
    exact WP.zret dX9_isYes_15 (by decide) ⟨rfl, rfl⟩
  · rw [if_neg c1] at h
    refine WP.iload_n dX9_isYes_6 rfl rfl ?_
    refine WP.if_eq (tgt := 14) dX9_isYes_7 (by decide) (fun c2 => ?_) (fun c2 => ?_)
    · rw [if_pos c2] at h
      refine WP.iconst (v := 0) dX9_isYes_14 (by decide) ?_
      cases h
      exact WP.zret dX9_isYes_15 (by decide) ⟨rfl, rfl⟩
    · rw [if_neg c2] at h
      refine WP.iconst (v := 1) dX9_isYes_10 (by decide) ?_
      refine WP.goto (tgt := 15) dX9_isYes_11 (by decide) ?_
      cases h
      exact WP.zret dX9_isYes_15 (by decide) ⟨rfl, rfl⟩
/-! X0_has -/
def rX0_has : Room := { frames := 0, cells := 0, slots := 0, locals := 0 }
def FX0_has (x1 : Int32) (M : Mm) : Option Int32 :=
  (if x1 < 0 then some 0 else (if (M.1 2 6) ≤ x1 then some 0 else some 1))
set_option maxRecDepth 20000 in
theorem TX0_has {l : Launch} {G : va_G} {tc : Nat → ClassId} {D : Nat → Nat} {x1 : Int32} {M : Mm} {R : Int32} (h : FX0_has x1 M = some R) : WP l G tc D lay (fun _ => True) yX0_has.cls cX0_has 2 rX0_has (.code yX0_has cX0_has 2 (some .boolean)) 0 (entL 2 [.ref 2, .int x1]) [] M (RetQ cX0_has (some .boolean) (RQI R M)) := by
  show WP l G tc D lay (fun _ => True) RX0 cX0_has 2 rX0_has (.code yX0_has cX0_has 2 (some .boolean)) 0 [some (.ref 2), some (.int x1)] [] M (RetQ cX0_has (some .boolean) (RQI R M))
  unfold FX0_has at h
  refine WP.iload_n dX0_has_0 rfl rfl ?_
  refine WP.if_lt (tgt := 16) dX0_has_1 (by decide) (fun c1 => ?_) (fun c1 => ?_)
  · rw [if_pos c1] at h
    refine WP.iconst (v := 0) dX0_has_16 (by decide) ?_
    cases h
    exact WP.zret dX0_has_17 (by decide) ⟨rfl, rfl⟩
  · rw [if_neg c1] at h
    refine WP.iload_n dX0_has_4 rfl rfl ?_
    refine WP.aload_n dX0_has_5 rfl rfl ?_
    refine WP.getI (j := 6) dX0_has_6 rfl rfl in_X0 (by decide) wd_105 rfl ?_
    refine WP.icmp_ge (tgt := 16) dX0_has_9 (by decide) (fun c2 => ?_) (fun c2 => ?_)
    · rw [if_pos c2] at h
      refine WP.iconst (v := 0) dX0_has_16 (by decide) ?_
      cases h
      exact WP.zret dX0_has_17 (by decide) ⟨rfl, rfl⟩
    · rw [if_neg c2] at h
      refine WP.iconst (v := 1) dX0_has_12 (by decide) ?_
      refine WP.goto (tgt := 17) dX0_has_13 (by decide) ?_
      cases h
      exact WP.zret dX0_has_17 (by decide) ⟨rfl, rfl⟩
/-! J7_fill_53178 -/
def rJ7_fill_53178 : Room := { frames := 0, cells := 0, slots := 0, locals := 0 }
def BJ7_fill_53178_5 (N : Nat) (k1 n : Nat) (K5 : Int32 × Int32 × Int32 × Mm → Option Mm) (q : Int32 × Int32 × Int32 × Mm) : Option Mm :=
  (if q.2.2.1 ≤ q.2.1 then some q.2.2.2 else (wrI q.2.2.2 k1 n q.2.1 q.1).bind fun M2 => K5 (q.1, (q.2.1 + 1), q.2.2.1, M2))
def FJ7_fill_53178 (N : Nat) (k1 n : Nat) (x2 : Int32) (M : Mm) : Option Mm :=
  lp (BJ7_fill_53178_5 N k1 n) N (x2, 0, (Int32.ofNat n), M)
set_option maxRecDepth 20000 in
theorem tJ7_fill_53178_5 {l : Launch} {G : va_G} {tc : Nat → ClassId} {D : Nat → Nat} {N : Nat} {k1 n : Nat} (hk1 : lay[k1]? = some (.inr (.inl (0, n)))) : ∀ (nn : Nat) (q : Int32 × Int32 × Int32 × Mm) (R : Mm), lp (BJ7_fill_53178_5 N k1 n) nn q = some R → WP l G tc D lay (fun _ => True) RJ7 cJ7_fill_53178 4 rJ7_fill_53178 (.code yJ7_fill_53178 cJ7_fill_53178 4 none) 5 [some (.ref k1), some (.int q.1), some (.int q.2.1), some (.int q.2.2.1)] [] q.2.2.2 (RetQ cJ7_fill_53178 none (RQV R)) := by
  refine lp_ind (fun K5 hK5 q R h => ?_)
  unfold BJ7_fill_53178_5 at h
  refine WP.iload_n dJ7_fill_53178_5 rfl rfl ?_
  refine WP.iload_n dJ7_fill_53178_6 rfl rfl ?_
  refine WP.icmp_ge (tgt := 20) dJ7_fill_53178_7 (by decide) (fun c1 => ?_) (fun c1 => ?_)
  · rw [if_pos c1] at h
    cases h
    exact WP.vret dJ7_fill_53178_20 ⟨rfl, rfl⟩
  · rw [if_neg c1] at h
    refine WP.aload_n dJ7_fill_53178_10 rfl rfl ?_
    refine WP.iload_n dJ7_fill_53178_11 rfl rfl ?_
    refine WP.iload_n dJ7_fill_53178_12 rfl rfl ?_
    obtain ⟨M2, h3, h⟩ := Option.bind_eq_some_iff.mp h
    refine WP.iastQ dJ7_fill_53178_13 hk1 h3 ?_
    refine WP.iinc (v := (q.2.1 + 1)) dJ7_fill_53178_14 rfl rfl (by decide) rfl rfl ?_
    refine WP.goto (tgt := 5) dJ7_fill_53178_17 (by decide) ?_
    refine WP.fgt [true, true, true, true] rfl ?_
    exact hK5 (q.1, (q.2.1 + 1), q.2.2.1, M2) _ h
set_option maxRecDepth 20000 in
theorem TJ7_fill_53178 {l : Launch} {G : va_G} {tc : Nat → ClassId} {D : Nat → Nat} {N : Nat} {k1 n : Nat} {x2 : Int32} {M : Mm} (hk1 : lay[k1]? = some (.inr (.inl (0, n)))) {R : Mm} (h : FJ7_fill_53178 N k1 n x2 M = some R) : WP l G tc D lay (fun _ => True) yJ7_fill_53178.cls cJ7_fill_53178 4 rJ7_fill_53178 (.code yJ7_fill_53178 cJ7_fill_53178 4 none) 0 (entL 4 [.ref k1, .int x2]) [] M (RetQ cJ7_fill_53178 none (RQV R)) := by
  show WP l G tc D lay (fun _ => True) RJ7 cJ7_fill_53178 4 rJ7_fill_53178 (.code yJ7_fill_53178 cJ7_fill_53178 4 none) 0 [some (.ref k1), some (.int x2), none, none] [] M (RetQ cJ7_fill_53178 none (RQV R))
  unfold FJ7_fill_53178 at h
  refine WP.iconst (v := 0) dJ7_fill_53178_0 (by decide) ?_
  refine WP.istore_n dJ7_fill_53178_1 rfl (by decide) rfl rfl ?_
  refine WP.aload_n dJ7_fill_53178_2 rfl rfl ?_
  refine WP.alen dJ7_fill_53178_3 hk1 rfl ?_
  refine WP.istore_n dJ7_fill_53178_4 rfl (by decide) rfl rfl ?_
  refine WP.fgt [true, true, true, true] rfl ?_
  exact tJ7_fill_53178_5 hk1 N (x2, 0, (Int32.ofNat n), M) _ h
/-! X0_add -/
def rX0_add : Room := { frames := 1, cells := 0, slots := 0, locals := 23 }
def FX0_add (N : Nat) (x1 : Int32) (x2 : Int32) (x3 : Int32) (M : Mm) : Option (Int32 × Mm) :=
  (if (M.1 2 6) < 12 then (wrI M 3 12 (M.1 2 6) x1).bind fun M2 => (wrI M2 4 12 (M2.1 2 6) x2).bind fun M4 => (wrZ M4 5 12 (M4.1 2 6) x3).bind fun M6 => (ckR 7 12 (M6.1 2 6)).bind fun k8 => (FJ7_fill_53178 N k8 4 (-9) M6).bind fun M11 => (wrF M11 2 6 ((M11.1 2 6) + 1)).bind fun M12 => some (((M12.1 2 6) - 1), M12) else some ((-4), M))
set_option maxRecDepth 20000 in
theorem TX0_add {l : Launch} {G : va_G} {tc : Nat → ClassId} {D : Nat → Nat} {N : Nat} {x1 : Int32} {x2 : Int32} {x3 : Int32} {M : Mm} {R : (Int32 × Mm)} (h : FX0_add N x1 x2 x3 M = some R) : WP l G tc D lay (fun _ => True) yX0_add.cls cX0_add 4 rX0_add (.code yX0_add cX0_add 4 (some .int)) 0 (entL 4 [.ref 2, .int x1, .int x2, .int x3]) [] M (RetQ cX0_add (some .int) (RQI R.1 R.2)) := by
  show WP l G tc D lay (fun _ => True) RX0 cX0_add 4 rX0_add (.code yX0_add cX0_add 4 (some .int)) 0 [some (.ref 2), some (.int x1), some (.int x2), some (.int x3)] [] M (RetQ cX0_add (some .int) (RQI R.1 R.2))
  unfold FX0_add at h
  refine WP.aload_n dX0_add_0 rfl rfl ?_
  refine WP.getI (j := 6) dX0_add_1 rfl rfl in_X0 (by decide) wd_105 rfl ?_
  refine WP.bipush (v := 12) dX0_add_4 (by decide) ?_
  refine WP.icmp_lt (tgt := 12) dX0_add_6 (by decide) (fun c1 => ?_) (fun c1 => ?_)
  · rw [if_pos c1] at h
    refine WP.aload_n dX0_add_12 rfl rfl ?_
    refine WP.getR (j := 0) dX0_add_13 rfl rfl in_X0 (by decide) wd_81 rfl ?_
    refine WP.aload_n dX0_add_16 rfl rfl ?_
    refine WP.getI (j := 6) dX0_add_17 rfl rfl in_X0 (by decide) wd_105 rfl ?_
    refine WP.iload_n dX0_add_20 rfl rfl ?_
    obtain ⟨M2, h3, h⟩ := Option.bind_eq_some_iff.mp h
    refine WP.iastQ dX0_add_21 rfl h3 ?_
    refine WP.aload_n dX0_add_22 rfl rfl ?_
    refine WP.getR (j := 1) dX0_add_23 rfl rfl in_X0 (by decide) wd_85 rfl ?_
    refine WP.aload_n dX0_add_26 rfl rfl ?_
    refine WP.getI (j := 6) dX0_add_27 rfl rfl in_X0 (by decide) wd_105 rfl ?_
    refine WP.iload_n dX0_add_30 rfl rfl ?_
    obtain ⟨M4, h5, h⟩ := Option.bind_eq_some_iff.mp h
    refine WP.iastQ dX0_add_31 rfl h5 ?_
    refine WP.aload_n dX0_add_32 rfl rfl ?_
    refine WP.getR (j := 2) dX0_add_33 rfl rfl in_X0 (by decide) wd_89 rfl ?_
    refine WP.aload_n dX0_add_36 rfl rfl ?_
    refine WP.getI (j := 6) dX0_add_37 rfl rfl in_X0 (by decide) wd_105 rfl ?_
    refine WP.iload_n dX0_add_40 rfl rfl ?_
    obtain ⟨M6, h7, h⟩ := Option.bind_eq_some_iff.mp h
    refine WP.zastQ dX0_add_41 rfl h7 ?_
    refine WP.aload_n dX0_add_42 rfl rfl ?_
    refine WP.getR (j := 3) dX0_add_43 rfl rfl in_X0 (by decide) wd_93 rfl ?_
    refine WP.aload_n dX0_add_46 rfl rfl ?_
    refine WP.getI (j := 6) dX0_add_47 rfl rfl in_X0 (by decide) wd_105 rfl ?_
    obtain ⟨k8, h9, h⟩ := Option.bind_eq_some_iff.mp h
    refine WP.aaldQ (base := 7) (n := 12) dX0_add_50 rfl rfl h9 ?_
    have hk8 := rows_6 h9
    refine WP.bipush (v := (-9)) dX0_add_51 (by decide) ?_
    obtain ⟨M11, h10, h⟩ := Option.bind_eq_some_iff.mp h
    refine WP.callSV [.ref k8, .int (-9)] dX0_add_53 lk_X0_37 rfl (Nat.le_of_ble_eq_true rfl) (by decide) (Nat.le_of_ble_eq_true rfl) rfl (TJ7_fill_53178 (k1 := k8) (n := 4) hk8 h10) ?_
    refine WP.aload_n dX0_add_56 rfl rfl ?_
    refine WP.dup dX0_add_57 rfl ?_
    refine WP.getI (j := 6) dX0_add_58 rfl rfl in_X0 (by decide) wd_105 rfl ?_
    refine WP.iconst (v := 1) dX0_add_61 (by decide) ?_
    refine WP.iadd dX0_add_62 ?_
    obtain ⟨M12, h13, h⟩ := Option.bind_eq_some_iff.mp h
    refine WP.putF (j := 6) (ty := .int) dX0_add_63 rfl rfl in_X0 tyX0_ok nmX0 (by decide) wd_105 rfl (by decide +kernel) rfl rfl rfl h13 ?_
    refine WP.aload_n dX0_add_66 rfl rfl ?_
    refine WP.getI (j := 6) dX0_add_67 rfl rfl in_X0 (by decide) wd_105 rfl ?_
    refine WP.iconst (v := 1) dX0_add_70 (by decide) ?_
    refine WP.isub dX0_add_71 ?_
    cases h
    exact WP.iret dX0_add_72 ⟨rfl, rfl⟩
  · rw [if_neg c1] at h
    refine WP.bipush (v := (-4)) dX0_add_9 (by decide) ?_
    cases h
    exact WP.iret dX0_add_11 ⟨rfl, rfl⟩
/-! X0_inSpan -/
def rX0_inSpan : Room := { frames := 0, cells := 0, slots := 0, locals := 0 }
def FX0_inSpan (x1 : Int32) (x2 : Int32) (M : Mm) : Option Int32 :=
  (rdI M 3 12 x1).bind fun v1 => (if x2 < v1 then some 0 else (rdI M 4 12 x1).bind fun v4 => (if v4 < x2 then some 0 else some 1))
set_option maxRecDepth 20000 in
theorem TX0_inSpan {l : Launch} {G : va_G} {tc : Nat → ClassId} {D : Nat → Nat} {x1 : Int32} {x2 : Int32} {M : Mm} {R : Int32} (h : FX0_inSpan x1 x2 M = some R) : WP l G tc D lay (fun _ => True) yX0_inSpan.cls cX0_inSpan 3 rX0_inSpan (.code yX0_inSpan cX0_inSpan 3 (some .boolean)) 0 (entL 3 [.ref 2, .int x1, .int x2]) [] M (RetQ cX0_inSpan (some .boolean) (RQI R M)) := by
  show WP l G tc D lay (fun _ => True) RX0 cX0_inSpan 3 rX0_inSpan (.code yX0_inSpan cX0_inSpan 3 (some .boolean)) 0 [some (.ref 2), some (.int x1), some (.int x2)] [] M (RetQ cX0_inSpan (some .boolean) (RQI R M))
  unfold FX0_inSpan at h
  refine WP.iload_n dX0_inSpan_0 rfl rfl ?_
  refine WP.aload_n dX0_inSpan_1 rfl rfl ?_
  refine WP.getR (j := 0) dX0_inSpan_2 rfl rfl in_X0 (by decide) wd_81 rfl ?_
  refine WP.iload_n dX0_inSpan_5 rfl rfl ?_
  obtain ⟨v1, h2, h⟩ := Option.bind_eq_some_iff.mp h
  refine WP.ialdQ dX0_inSpan_6 rfl h2 ?_
  refine WP.icmp_lt (tgt := 24) dX0_inSpan_7 (by decide) (fun c3 => ?_) (fun c3 => ?_)
  · rw [if_pos c3] at h
    refine WP.iconst (v := 0) dX0_inSpan_24 (by decide) ?_
    cases h
    exact WP.zret dX0_inSpan_25 (by decide) ⟨rfl, rfl⟩
  · rw [if_neg c3] at h
    refine WP.iload_n dX0_inSpan_10 rfl rfl ?_
    refine WP.aload_n dX0_inSpan_11 rfl rfl ?_
    refine WP.getR (j := 1) dX0_inSpan_12 rfl rfl in_X0 (by decide) wd_85 rfl ?_
    refine WP.iload_n dX0_inSpan_15 rfl rfl ?_
    obtain ⟨v4, h5, h⟩ := Option.bind_eq_some_iff.mp h
    refine WP.ialdQ dX0_inSpan_16 rfl h5 ?_
    refine WP.icmp_gt (tgt := 24) dX0_inSpan_17 (by decide) (fun c6 => ?_) (fun c6 => ?_)
    · rw [if_pos c6] at h
      refine WP.iconst (v := 0) dX0_inSpan_24 (by decide) ?_
      cases h
      exact WP.zret dX0_inSpan_25 (by decide) ⟨rfl, rfl⟩
    · rw [if_neg c6] at h
      refine WP.iconst (v := 1) dX0_inSpan_20 (by decide) ?_
      refine WP.goto (tgt := 25) dX0_inSpan_21 (by decide) ?_
      cases h
      exact WP.zret dX0_inSpan_25 (by decide) ⟨rfl, rfl⟩
/-! X0_askedBits -/
def rX0_askedBits : Room := { frames := 0, cells := 0, slots := 0, locals := 0 }
def BX0_askedBits_4 (N : Nat) (M : Mm) (K4 : Int32 × Int32 → Option Int32) (q : Int32 × Int32) : Option Int32 :=
  (if (M.1 2 6) ≤ q.2 then some q.1 else (rdI M 5 12 q.2).bind fun v2 => (if v2 = 0 then K4 ((q.1 ||| ((1 : Int32) <<< (q.2 &&& 31))), (q.2 + 1)) else K4 (q.1, (q.2 + 1))))
def FX0_askedBits (N : Nat) (M : Mm) : Option Int32 :=
  lp (BX0_askedBits_4 N M) N (0, 0)
set_option maxRecDepth 20000 in
theorem tX0_askedBits_4 {l : Launch} {G : va_G} {tc : Nat → ClassId} {D : Nat → Nat} {N : Nat} {M : Mm} : ∀ (nn : Nat) (q : Int32 × Int32) (R : Int32), lp (BX0_askedBits_4 N M) nn q = some R → WP l G tc D lay (fun _ => True) RX0 cX0_askedBits 3 rX0_askedBits (.code yX0_askedBits cX0_askedBits 3 (some .int)) 4 [some (.ref 2), some (.int q.1), some (.int q.2)] [] M (RetQ cX0_askedBits (some .int) (RQI R M)) := by
  refine lp_ind (fun K4 hK4 q R h => ?_)
  unfold BX0_askedBits_4 at h
  refine WP.iload_n dX0_askedBits_4 rfl rfl ?_
  refine WP.aload_n dX0_askedBits_5 rfl rfl ?_
  refine WP.getI (j := 6) dX0_askedBits_6 rfl rfl in_X0 (by decide) wd_105 rfl ?_
  refine WP.icmp_ge (tgt := 33) dX0_askedBits_9 (by decide) (fun c1 => ?_) (fun c1 => ?_)
  · rw [if_pos c1] at h
    refine WP.iload_n dX0_askedBits_33 rfl rfl ?_
    cases h
    exact WP.iret dX0_askedBits_34 ⟨rfl, rfl⟩
  · rw [if_neg c1] at h
    refine WP.aload_n dX0_askedBits_12 rfl rfl ?_
    refine WP.getR (j := 2) dX0_askedBits_13 rfl rfl in_X0 (by decide) wd_89 rfl ?_
    refine WP.iload_n dX0_askedBits_16 rfl rfl ?_
    obtain ⟨v2, h3, h⟩ := Option.bind_eq_some_iff.mp h
    refine WP.zaldQ dX0_askedBits_17 rfl h3 ?_
    refine WP.if_ne (tgt := 27) dX0_askedBits_18 (by decide) (fun c4 => ?_) (fun c4 => ?_)
    · rw [if_neg c4] at h
      refine WP.iinc (v := (q.2 + 1)) dX0_askedBits_27 rfl rfl (by decide) rfl rfl ?_
      refine WP.goto (tgt := 4) dX0_askedBits_30 (by decide) ?_
      refine WP.fgt [true, true, true] rfl ?_
      exact hK4 (q.1, (q.2 + 1)) _ h
    · rw [if_pos c4] at h
      refine WP.iload_n dX0_askedBits_21 rfl rfl ?_
      refine WP.iconst (v := 1) dX0_askedBits_22 (by decide) ?_
      refine WP.iload_n dX0_askedBits_23 rfl rfl ?_
      refine WP.ishl dX0_askedBits_24 ?_
      refine WP.ior dX0_askedBits_25 ?_
      refine WP.istore_n dX0_askedBits_26 rfl (by decide) rfl rfl ?_
      refine WP.iinc (v := (q.2 + 1)) dX0_askedBits_27 rfl rfl (by decide) rfl rfl ?_
      refine WP.goto (tgt := 4) dX0_askedBits_30 (by decide) ?_
      refine WP.fgt [true, true, true] rfl ?_
      exact hK4 ((q.1 ||| ((1 : Int32) <<< (q.2 &&& 31))), (q.2 + 1)) _ h
set_option maxRecDepth 20000 in
theorem TX0_askedBits {l : Launch} {G : va_G} {tc : Nat → ClassId} {D : Nat → Nat} {N : Nat} {M : Mm} {R : Int32} (h : FX0_askedBits N M = some R) : WP l G tc D lay (fun _ => True) yX0_askedBits.cls cX0_askedBits 3 rX0_askedBits (.code yX0_askedBits cX0_askedBits 3 (some .int)) 0 (entL 3 [.ref 2]) [] M (RetQ cX0_askedBits (some .int) (RQI R M)) := by
  show WP l G tc D lay (fun _ => True) RX0 cX0_askedBits 3 rX0_askedBits (.code yX0_askedBits cX0_askedBits 3 (some .int)) 0 [some (.ref 2), none, none] [] M (RetQ cX0_askedBits (some .int) (RQI R M))
  unfold FX0_askedBits at h
  refine WP.iconst (v := 0) dX0_askedBits_0 (by decide) ?_
  refine WP.istore_n dX0_askedBits_1 rfl (by decide) rfl rfl ?_
  refine WP.iconst (v := 0) dX0_askedBits_2 (by decide) ?_
  refine WP.istore_n dX0_askedBits_3 rfl (by decide) rfl rfl ?_
  refine WP.fgt [true, true, true] rfl ?_
  exact tX0_askedBits_4  N (0, 0) _ h
/-! X0_hangersOn -/
def rX0_hangersOn : Room := { frames := 1, cells := 0, slots := 0, locals := 21 }
def BX0_hangersOn_4 (N : Nat) (M : Mm) (K4 : Int32 × Int32 × Int32 → Option Int32) (q : Int32 × Int32 × Int32) : Option Int32 :=
  (if (M.1 2 6) ≤ q.2.2 then some q.2.1 else (rdI M 20 12 q.2.2).bind fun v2 => (FX9_hasBit v2 q.1 M).bind fun r5 => (FX9_truth r5 M).bind fun r7 => K4 (q.1, (q.2.1 + r7), (q.2.2 + 1)))
def FX0_hangersOn (N : Nat) (x1 : Int32) (M : Mm) : Option Int32 :=
  lp (BX0_hangersOn_4 N M) N (x1, 0, 0)
set_option maxRecDepth 20000 in
theorem tX0_hangersOn_4 {l : Launch} {G : va_G} {tc : Nat → ClassId} {D : Nat → Nat} {N : Nat} {M : Mm} : ∀ (nn : Nat) (q : Int32 × Int32 × Int32) (R : Int32), lp (BX0_hangersOn_4 N M) nn q = some R → WP l G tc D lay (fun _ => True) RX0 cX0_hangersOn 4 rX0_hangersOn (.code yX0_hangersOn cX0_hangersOn 4 (some .int)) 4 [some (.ref 2), some (.int q.1), some (.int q.2.1), some (.int q.2.2)] [] M (RetQ cX0_hangersOn (some .int) (RQI R M)) := by
  refine lp_ind (fun K4 hK4 q R h => ?_)
  unfold BX0_hangersOn_4 at h
  refine WP.iload_n dX0_hangersOn_4 rfl rfl ?_
  refine WP.aload_n dX0_hangersOn_5 rfl rfl ?_
  refine WP.getI (j := 6) dX0_hangersOn_6 rfl rfl in_X0 (by decide) wd_105 rfl ?_
  refine WP.icmp_ge (tgt := 34) dX0_hangersOn_9 (by decide) (fun c1 => ?_) (fun c1 => ?_)
  · rw [if_pos c1] at h
    refine WP.iload_n dX0_hangersOn_34 rfl rfl ?_
    cases h
    exact WP.iret dX0_hangersOn_35 ⟨rfl, rfl⟩
  · rw [if_neg c1] at h
    refine WP.iload_n dX0_hangersOn_12 rfl rfl ?_
    refine WP.aload_n dX0_hangersOn_13 rfl rfl ?_
    refine WP.getR (j := 5) dX0_hangersOn_14 rfl rfl in_X0 (by decide) wd_101 rfl ?_
    refine WP.iload_n dX0_hangersOn_17 rfl rfl ?_
    obtain ⟨v2, h3, h⟩ := Option.bind_eq_some_iff.mp h
    refine WP.ialdQ dX0_hangersOn_18 rfl h3 ?_
    refine WP.iload_n dX0_hangersOn_19 rfl rfl ?_
    obtain ⟨r5, h4, h⟩ := Option.bind_eq_some_iff.mp h
    refine WP.callNI [.int v2, .int q.1] dX0_hangersOn_20 lk_X0_43 rfl (Nat.le_of_ble_eq_true rfl) (by decide) (Nat.le_of_ble_eq_true rfl) rfl (TX9_hasBit h4) ?_
    obtain ⟨r7, h6, h⟩ := Option.bind_eq_some_iff.mp h
    refine WP.callNI [.int r5] dX0_hangersOn_23 lk_X0_47 rfl (Nat.le_of_ble_eq_true rfl) (by decide) (Nat.le_of_ble_eq_true rfl) rfl (TX9_truth h6) ?_
    refine WP.iadd dX0_hangersOn_26 ?_
    refine WP.istore_n dX0_hangersOn_27 rfl (by decide) rfl rfl ?_
    refine WP.iinc (v := (q.2.2 + 1)) dX0_hangersOn_28 rfl rfl (by decide) rfl rfl ?_
    refine WP.goto (tgt := 4) dX0_hangersOn_31 (by decide) ?_
    refine WP.fgt [true, true, true, true] rfl ?_
    exact hK4 (q.1, (q.2.1 + r7), (q.2.2 + 1)) _ h
set_option maxRecDepth 20000 in
theorem TX0_hangersOn {l : Launch} {G : va_G} {tc : Nat → ClassId} {D : Nat → Nat} {N : Nat} {x1 : Int32} {M : Mm} {R : Int32} (h : FX0_hangersOn N x1 M = some R) : WP l G tc D lay (fun _ => True) yX0_hangersOn.cls cX0_hangersOn 4 rX0_hangersOn (.code yX0_hangersOn cX0_hangersOn 4 (some .int)) 0 (entL 4 [.ref 2, .int x1]) [] M (RetQ cX0_hangersOn (some .int) (RQI R M)) := by
  show WP l G tc D lay (fun _ => True) RX0 cX0_hangersOn 4 rX0_hangersOn (.code yX0_hangersOn cX0_hangersOn 4 (some .int)) 0 [some (.ref 2), some (.int x1), none, none] [] M (RetQ cX0_hangersOn (some .int) (RQI R M))
  unfold FX0_hangersOn at h
  refine WP.iconst (v := 0) dX0_hangersOn_0 (by decide) ?_
  refine WP.istore_n dX0_hangersOn_1 rfl (by decide) rfl rfl ?_
  refine WP.iconst (v := 0) dX0_hangersOn_2 (by decide) ?_
  refine WP.istore_n dX0_hangersOn_3 rfl (by decide) rfl rfl ?_
  refine WP.fgt [true, true, true, true] rfl ?_
  exact tX0_hangersOn_4  N (x1, 0, 0) _ h
/-! X0_spread -/
def rX0_spread : Room := { frames := 1, cells := 0, slots := 0, locals := 21 }
def BX0_spread_4 (N : Nat) (M : Mm) (K4 : Int32 × Int32 × Int32 → Option Int32) (q : Int32 × Int32 × Int32) : Option Int32 :=
  (if (M.1 2 6) ≤ q.2.2 then some q.2.1 else (FX9_hasBit q.1 q.2.2 M).bind fun r3 => (if r3 = 0 then K4 (q.1, q.2.1, (q.2.2 + 1)) else (rdI M 20 12 q.2.2).bind fun v5 => K4 (q.1, (q.2.1 ||| v5), (q.2.2 + 1))))
def FX0_spread (N : Nat) (x1 : Int32) (M : Mm) : Option Int32 :=
  lp (BX0_spread_4 N M) N (x1, x1, 0)
set_option maxRecDepth 20000 in
theorem tX0_spread_4 {l : Launch} {G : va_G} {tc : Nat → ClassId} {D : Nat → Nat} {N : Nat} {M : Mm} : ∀ (nn : Nat) (q : Int32 × Int32 × Int32) (R : Int32), lp (BX0_spread_4 N M) nn q = some R → WP l G tc D lay (fun _ => True) RX0 cX0_spread 4 rX0_spread (.code yX0_spread cX0_spread 4 (some .int)) 4 [some (.ref 2), some (.int q.1), some (.int q.2.1), some (.int q.2.2)] [] M (RetQ cX0_spread (some .int) (RQI R M)) := by
  refine lp_ind (fun K4 hK4 q R h => ?_)
  unfold BX0_spread_4 at h
  refine WP.iload_n dX0_spread_4 rfl rfl ?_
  refine WP.aload_n dX0_spread_5 rfl rfl ?_
  refine WP.getI (j := 6) dX0_spread_6 rfl rfl in_X0 (by decide) wd_105 rfl ?_
  refine WP.icmp_ge (tgt := 35) dX0_spread_9 (by decide) (fun c1 => ?_) (fun c1 => ?_)
  · rw [if_pos c1] at h
    refine WP.iload_n dX0_spread_35 rfl rfl ?_
    cases h
    exact WP.iret dX0_spread_36 ⟨rfl, rfl⟩
  · rw [if_neg c1] at h
    refine WP.iload_n dX0_spread_12 rfl rfl ?_
    refine WP.iload_n dX0_spread_13 rfl rfl ?_
    obtain ⟨r3, h2, h⟩ := Option.bind_eq_some_iff.mp h
    refine WP.callNI [.int q.1, .int q.2.2] dX0_spread_14 lk_X0_43 rfl (Nat.le_of_ble_eq_true rfl) (by decide) (Nat.le_of_ble_eq_true rfl) rfl (TX9_hasBit h2) ?_
    refine WP.if_eq (tgt := 29) dX0_spread_17 (by decide) (fun c4 => ?_) (fun c4 => ?_)
    · rw [if_pos c4] at h
      refine WP.iinc (v := (q.2.2 + 1)) dX0_spread_29 rfl rfl (by decide) rfl rfl ?_
      refine WP.goto (tgt := 4) dX0_spread_32 (by decide) ?_
      refine WP.fgt [true, true, true, true] rfl ?_
      exact hK4 (q.1, q.2.1, (q.2.2 + 1)) _ h
    · rw [if_neg c4] at h
      refine WP.iload_n dX0_spread_20 rfl rfl ?_
      refine WP.aload_n dX0_spread_21 rfl rfl ?_
      refine WP.getR (j := 5) dX0_spread_22 rfl rfl in_X0 (by decide) wd_101 rfl ?_
      refine WP.iload_n dX0_spread_25 rfl rfl ?_
      obtain ⟨v5, h6, h⟩ := Option.bind_eq_some_iff.mp h
      refine WP.ialdQ dX0_spread_26 rfl h6 ?_
      refine WP.ior dX0_spread_27 ?_
      refine WP.istore_n dX0_spread_28 rfl (by decide) rfl rfl ?_
      refine WP.iinc (v := (q.2.2 + 1)) dX0_spread_29 rfl rfl (by decide) rfl rfl ?_
      refine WP.goto (tgt := 4) dX0_spread_32 (by decide) ?_
      refine WP.fgt [true, true, true, true] rfl ?_
      exact hK4 (q.1, (q.2.1 ||| v5), (q.2.2 + 1)) _ h
set_option maxRecDepth 20000 in
theorem TX0_spread {l : Launch} {G : va_G} {tc : Nat → ClassId} {D : Nat → Nat} {N : Nat} {x1 : Int32} {M : Mm} {R : Int32} (h : FX0_spread N x1 M = some R) : WP l G tc D lay (fun _ => True) yX0_spread.cls cX0_spread 4 rX0_spread (.code yX0_spread cX0_spread 4 (some .int)) 0 (entL 4 [.ref 2, .int x1]) [] M (RetQ cX0_spread (some .int) (RQI R M)) := by
  show WP l G tc D lay (fun _ => True) RX0 cX0_spread 4 rX0_spread (.code yX0_spread cX0_spread 4 (some .int)) 0 [some (.ref 2), some (.int x1), none, none] [] M (RetQ cX0_spread (some .int) (RQI R M))
  unfold FX0_spread at h
  refine WP.iload_n dX0_spread_0 rfl rfl ?_
  refine WP.istore_n dX0_spread_1 rfl (by decide) rfl rfl ?_
  refine WP.iconst (v := 0) dX0_spread_2 (by decide) ?_
  refine WP.istore_n dX0_spread_3 rfl (by decide) rfl rfl ?_
  refine WP.fgt [true, true, true, true] rfl ?_
  exact tX0_spread_4  N (x1, x1, 0) _ h
/-! X0_spreadHangs -/
def rX0_spreadHangs : Room := { frames := 1, cells := 0, slots := 0, locals := 21 }
def BX0_spreadHangs_40 (N : Nat) (K30 : Int32 × Mm → Option Mm) (K40 : Int32 × Int32 × Mm → Option Mm) (q : Int32 × Int32 × Mm) : Option Mm :=
  (if (q.2.2.1 2 6) ≤ q.2.1 then K30 ((q.1 + 1), q.2.2) else (rdI q.2.2 20 12 q.2.1).bind fun v2 => (FX9_hasBit v2 q.1 q.2.2).bind fun r5 => (if r5 = 0 then K40 (q.1, (q.2.1 + 1), q.2.2) else (rdI q.2.2 20 12 q.2.1).bind fun v7 => (rdI q.2.2 20 12 q.1).bind fun v9 => (wrI q.2.2 20 12 q.2.1 (v7 ||| v9)).bind fun M11 => K40 (q.1, (q.2.1 + 1), M11)))
def BX0_spreadHangs_30 (N : Nat) (K30 : Int32 × Mm → Option Mm) (q : Int32 × Mm) : Option Mm :=
  (if (q.2.1 2 6) ≤ q.1 then some q.2 else lp (BX0_spreadHangs_40 N K30) N (q.1, 0, q.2))
def BX0_spreadHangs_2 (N : Nat) (K2 : Int32 × Mm → Option Mm) (q : Int32 × Mm) : Option Mm :=
  (if (q.2.1 2 6) ≤ q.1 then lp (BX0_spreadHangs_30 N) N (0, q.2) else (rdI q.2 19 12 q.1).bind fun v2 => (wrI q.2 20 12 q.1 v2).bind fun M4 => K2 ((q.1 + 1), M4))
def FX0_spreadHangs (N : Nat) (M : Mm) : Option Mm :=
  lp (BX0_spreadHangs_2 N) N (0, M)
set_option maxRecDepth 20000 in
theorem tX0_spreadHangs_40 {l : Launch} {G : va_G} {tc : Nat → ClassId} {D : Nat → Nat} {N : Nat} {K30 : Int32 × Mm → Option Mm} (hK30 : ∀ (q : Int32 × Mm) (R : Mm), K30 q = some R → WP l G tc D lay (fun _ => True) RX0 cX0_spreadHangs 3 rX0_spreadHangs (.code yX0_spreadHangs cX0_spreadHangs 3 none) 30 [some (.ref 2), some (.int q.1), none] [] q.2 (RetQ cX0_spreadHangs none (RQV R))) : ∀ (nn : Nat) (q : Int32 × Int32 × Mm) (R : Mm), lp (BX0_spreadHangs_40 N K30) nn q = some R → WP l G tc D lay (fun _ => True) RX0 cX0_spreadHangs 3 rX0_spreadHangs (.code yX0_spreadHangs cX0_spreadHangs 3 none) 40 [some (.ref 2), some (.int q.1), some (.int q.2.1)] [] q.2.2 (RetQ cX0_spreadHangs none (RQV R)) := by
  refine lp_ind (fun K40 hK40 q R h => ?_)
  unfold BX0_spreadHangs_40 at h
  refine WP.iload_n dX0_spreadHangs_40 rfl rfl ?_
  refine WP.aload_n dX0_spreadHangs_41 rfl rfl ?_
  refine WP.getI (j := 6) dX0_spreadHangs_42 rfl rfl in_X0 (by decide) wd_105 rfl ?_
  refine WP.icmp_ge (tgt := 82) dX0_spreadHangs_45 (by decide) (fun c1 => ?_) (fun c1 => ?_)
  · rw [if_pos c1] at h
    refine WP.iinc (v := (q.1 + 1)) dX0_spreadHangs_82 rfl rfl (by decide) rfl rfl ?_
    refine WP.goto (tgt := 30) dX0_spreadHangs_85 (by decide) ?_
    refine WP.fgt [true, true, false] rfl ?_
    exact hK30 ((q.1 + 1), q.2.2) _ h
  · rw [if_neg c1] at h
    refine WP.aload_n dX0_spreadHangs_48 rfl rfl ?_
    refine WP.getR (j := 5) dX0_spreadHangs_49 rfl rfl in_X0 (by decide) wd_101 rfl ?_
    refine WP.iload_n dX0_spreadHangs_52 rfl rfl ?_
    obtain ⟨v2, h3, h⟩ := Option.bind_eq_some_iff.mp h
    refine WP.ialdQ dX0_spreadHangs_53 rfl h3 ?_
    refine WP.iload_n dX0_spreadHangs_54 rfl rfl ?_
    obtain ⟨r5, h4, h⟩ := Option.bind_eq_some_iff.mp h
    refine WP.callNI [.int v2, .int q.1] dX0_spreadHangs_55 lk_X0_43 rfl (Nat.le_of_ble_eq_true rfl) (by decide) (Nat.le_of_ble_eq_true rfl) rfl (TX9_hasBit h4) ?_
    refine WP.if_eq (tgt := 76) dX0_spreadHangs_58 (by decide) (fun c6 => ?_) (fun c6 => ?_)
    · rw [if_pos c6] at h
      refine WP.iinc (v := (q.2.1 + 1)) dX0_spreadHangs_76 rfl rfl (by decide) rfl rfl ?_
      refine WP.goto (tgt := 40) dX0_spreadHangs_79 (by decide) ?_
      refine WP.fgt [true, true, true] rfl ?_
      exact hK40 (q.1, (q.2.1 + 1), q.2.2) _ h
    · rw [if_neg c6] at h
      refine WP.aload_n dX0_spreadHangs_61 rfl rfl ?_
      refine WP.getR (j := 5) dX0_spreadHangs_62 rfl rfl in_X0 (by decide) wd_101 rfl ?_
      refine WP.iload_n dX0_spreadHangs_65 rfl rfl ?_
      refine WP.dup2 dX0_spreadHangs_66 rfl rfl ?_
      obtain ⟨v7, h8, h⟩ := Option.bind_eq_some_iff.mp h
      refine WP.ialdQ dX0_spreadHangs_67 rfl h8 ?_
      refine WP.aload_n dX0_spreadHangs_68 rfl rfl ?_
      refine WP.getR (j := 5) dX0_spreadHangs_69 rfl rfl in_X0 (by decide) wd_101 rfl ?_
      refine WP.iload_n dX0_spreadHangs_72 rfl rfl ?_
      obtain ⟨v9, h10, h⟩ := Option.bind_eq_some_iff.mp h
      refine WP.ialdQ dX0_spreadHangs_73 rfl h10 ?_
      refine WP.ior dX0_spreadHangs_74 ?_
      obtain ⟨M11, h12, h⟩ := Option.bind_eq_some_iff.mp h
      refine WP.iastQ dX0_spreadHangs_75 rfl h12 ?_
      refine WP.iinc (v := (q.2.1 + 1)) dX0_spreadHangs_76 rfl rfl (by decide) rfl rfl ?_
      refine WP.goto (tgt := 40) dX0_spreadHangs_79 (by decide) ?_
      refine WP.fgt [true, true, true] rfl ?_
      exact hK40 (q.1, (q.2.1 + 1), M11) _ h
set_option maxRecDepth 20000 in
theorem tX0_spreadHangs_30 {l : Launch} {G : va_G} {tc : Nat → ClassId} {D : Nat → Nat} {N : Nat} : ∀ (nn : Nat) (q : Int32 × Mm) (R : Mm), lp (BX0_spreadHangs_30 N) nn q = some R → WP l G tc D lay (fun _ => True) RX0 cX0_spreadHangs 3 rX0_spreadHangs (.code yX0_spreadHangs cX0_spreadHangs 3 none) 30 [some (.ref 2), some (.int q.1), none] [] q.2 (RetQ cX0_spreadHangs none (RQV R)) := by
  refine lp_ind (fun K30 hK30 q R h => ?_)
  unfold BX0_spreadHangs_30 at h
  refine WP.iload_n dX0_spreadHangs_30 rfl rfl ?_
  refine WP.aload_n dX0_spreadHangs_31 rfl rfl ?_
  refine WP.getI (j := 6) dX0_spreadHangs_32 rfl rfl in_X0 (by decide) wd_105 rfl ?_
  refine WP.icmp_ge (tgt := 88) dX0_spreadHangs_35 (by decide) (fun c1 => ?_) (fun c1 => ?_)
  · rw [if_pos c1] at h
    cases h
    exact WP.vret dX0_spreadHangs_88 ⟨rfl, rfl⟩
  · rw [if_neg c1] at h
    refine WP.iconst (v := 0) dX0_spreadHangs_38 (by decide) ?_
    refine WP.istore_n dX0_spreadHangs_39 rfl (by decide) rfl rfl ?_
    refine WP.fgt [true, true, true] rfl ?_
    exact tX0_spreadHangs_40 hK30 N (q.1, 0, q.2) _ h
set_option maxRecDepth 20000 in
theorem tX0_spreadHangs_2 {l : Launch} {G : va_G} {tc : Nat → ClassId} {D : Nat → Nat} {N : Nat} : ∀ (nn : Nat) (q : Int32 × Mm) (R : Mm), lp (BX0_spreadHangs_2 N) nn q = some R → WP l G tc D lay (fun _ => True) RX0 cX0_spreadHangs 3 rX0_spreadHangs (.code yX0_spreadHangs cX0_spreadHangs 3 none) 2 [some (.ref 2), some (.int q.1), none] [] q.2 (RetQ cX0_spreadHangs none (RQV R)) := by
  refine lp_ind (fun K2 hK2 q R h => ?_)
  unfold BX0_spreadHangs_2 at h
  refine WP.iload_n dX0_spreadHangs_2 rfl rfl ?_
  refine WP.aload_n dX0_spreadHangs_3 rfl rfl ?_
  refine WP.getI (j := 6) dX0_spreadHangs_4 rfl rfl in_X0 (by decide) wd_105 rfl ?_
  refine WP.icmp_ge (tgt := 28) dX0_spreadHangs_7 (by decide) (fun c1 => ?_) (fun c1 => ?_)
  · rw [if_pos c1] at h
    refine WP.iconst (v := 0) dX0_spreadHangs_28 (by decide) ?_
    refine WP.istore_n dX0_spreadHangs_29 rfl (by decide) rfl rfl ?_
    refine WP.fgt [true, true, false] rfl ?_
    exact tX0_spreadHangs_30  N (0, q.2) _ h
  · rw [if_neg c1] at h
    refine WP.aload_n dX0_spreadHangs_10 rfl rfl ?_
    refine WP.getR (j := 5) dX0_spreadHangs_11 rfl rfl in_X0 (by decide) wd_101 rfl ?_
    refine WP.iload_n dX0_spreadHangs_14 rfl rfl ?_
    refine WP.aload_n dX0_spreadHangs_15 rfl rfl ?_
    refine WP.getR (j := 4) dX0_spreadHangs_16 rfl rfl in_X0 (by decide) wd_98 rfl ?_
    refine WP.iload_n dX0_spreadHangs_19 rfl rfl ?_
    obtain ⟨v2, h3, h⟩ := Option.bind_eq_some_iff.mp h
    refine WP.ialdQ dX0_spreadHangs_20 rfl h3 ?_
    obtain ⟨M4, h5, h⟩ := Option.bind_eq_some_iff.mp h
    refine WP.iastQ dX0_spreadHangs_21 rfl h5 ?_
    refine WP.iinc (v := (q.1 + 1)) dX0_spreadHangs_22 rfl rfl (by decide) rfl rfl ?_
    refine WP.goto (tgt := 2) dX0_spreadHangs_25 (by decide) ?_
    refine WP.fgt [true, true, false] rfl ?_
    exact hK2 ((q.1 + 1), M4) _ h
set_option maxRecDepth 20000 in
theorem TX0_spreadHangs {l : Launch} {G : va_G} {tc : Nat → ClassId} {D : Nat → Nat} {N : Nat} {M : Mm} {R : Mm} (h : FX0_spreadHangs N M = some R) : WP l G tc D lay (fun _ => True) yX0_spreadHangs.cls cX0_spreadHangs 3 rX0_spreadHangs (.code yX0_spreadHangs cX0_spreadHangs 3 none) 0 (entL 3 [.ref 2]) [] M (RetQ cX0_spreadHangs none (RQV R)) := by
  show WP l G tc D lay (fun _ => True) RX0 cX0_spreadHangs 3 rX0_spreadHangs (.code yX0_spreadHangs cX0_spreadHangs 3 none) 0 [some (.ref 2), none, none] [] M (RetQ cX0_spreadHangs none (RQV R))
  unfold FX0_spreadHangs at h
  refine WP.iconst (v := 0) dX0_spreadHangs_0 (by decide) ?_
  refine WP.istore_n dX0_spreadHangs_1 rfl (by decide) rfl rfl ?_
  refine WP.fgt [true, true, false] rfl ?_
  exact tX0_spreadHangs_2  N (0, M) _ h
/-! X0_leastHanging -/
def rX0_leastHanging : Room := { frames := 1, cells := 0, slots := 0, locals := 21 }
def BX0_leastHanging_2 (N : Nat) (M : Mm) (K2 : Int32 × Int32 × Int32 → Option Int32) (q : Int32 × Int32 × Int32) : Option Int32 :=
  (if (M.1 2 6) ≤ q.2.2 then some (-9) else (FX9_hasBit q.1 q.2.2 M).bind fun r3 => (if r3 = 0 then K2 (q.1, q.2.1, (q.2.2 + 1)) else (rdI M 20 12 q.2.2).bind fun v5 => (FX9_hasBit v5 q.2.1 M).bind fun r8 => (if r8 = 0 then K2 (q.1, q.2.1, (q.2.2 + 1)) else some q.2.2)))
def FX0_leastHanging (N : Nat) (x1 : Int32) (x2 : Int32) (M : Mm) : Option Int32 :=
  lp (BX0_leastHanging_2 N M) N (x1, x2, 0)
set_option maxRecDepth 20000 in
theorem tX0_leastHanging_2 {l : Launch} {G : va_G} {tc : Nat → ClassId} {D : Nat → Nat} {N : Nat} {M : Mm} : ∀ (nn : Nat) (q : Int32 × Int32 × Int32) (R : Int32), lp (BX0_leastHanging_2 N M) nn q = some R → WP l G tc D lay (fun _ => True) RX0 cX0_leastHanging 4 rX0_leastHanging (.code yX0_leastHanging cX0_leastHanging 4 (some .int)) 2 [some (.ref 2), some (.int q.1), some (.int q.2.1), some (.int q.2.2)] [] M (RetQ cX0_leastHanging (some .int) (RQI R M)) := by
  refine lp_ind (fun K2 hK2 q R h => ?_)
  unfold BX0_leastHanging_2 at h
  refine WP.iload_n dX0_leastHanging_2 rfl rfl ?_
  refine WP.aload_n dX0_leastHanging_3 rfl rfl ?_
  refine WP.getI (j := 6) dX0_leastHanging_4 rfl rfl in_X0 (by decide) wd_105 rfl ?_
  refine WP.icmp_ge (tgt := 39) dX0_leastHanging_7 (by decide) (fun c1 => ?_) (fun c1 => ?_)
  · rw [if_pos c1] at h
    refine WP.bipush (v := (-9)) dX0_leastHanging_39 (by decide) ?_
    cases h
    exact WP.iret dX0_leastHanging_41 ⟨rfl, rfl⟩
  · rw [if_neg c1] at h
    refine WP.iload_n dX0_leastHanging_10 rfl rfl ?_
    refine WP.iload_n dX0_leastHanging_11 rfl rfl ?_
    obtain ⟨r3, h2, h⟩ := Option.bind_eq_some_iff.mp h
    refine WP.callNI [.int q.1, .int q.2.2] dX0_leastHanging_12 lk_X0_43 rfl (Nat.le_of_ble_eq_true rfl) (by decide) (Nat.le_of_ble_eq_true rfl) rfl (TX9_hasBit h2) ?_
    refine WP.if_eq (tgt := 33) dX0_leastHanging_15 (by decide) (fun c4 => ?_) (fun c4 => ?_)
    · rw [if_pos c4] at h
      refine WP.iinc (v := (q.2.2 + 1)) dX0_leastHanging_33 rfl rfl (by decide) rfl rfl ?_
      refine WP.goto (tgt := 2) dX0_leastHanging_36 (by decide) ?_
      refine WP.fgt [true, true, true, true] rfl ?_
      exact hK2 (q.1, q.2.1, (q.2.2 + 1)) _ h
    · rw [if_neg c4] at h
      refine WP.aload_n dX0_leastHanging_18 rfl rfl ?_
      refine WP.getR (j := 5) dX0_leastHanging_19 rfl rfl in_X0 (by decide) wd_101 rfl ?_
      refine WP.iload_n dX0_leastHanging_22 rfl rfl ?_
      obtain ⟨v5, h6, h⟩ := Option.bind_eq_some_iff.mp h
      refine WP.ialdQ dX0_leastHanging_23 rfl h6 ?_
      refine WP.iload_n dX0_leastHanging_24 rfl rfl ?_
      obtain ⟨r8, h7, h⟩ := Option.bind_eq_some_iff.mp h
      refine WP.callNI [.int v5, .int q.2.1] dX0_leastHanging_25 lk_X0_43 rfl (Nat.le_of_ble_eq_true rfl) (by decide) (Nat.le_of_ble_eq_true rfl) rfl (TX9_hasBit h7) ?_
      refine WP.if_eq (tgt := 33) dX0_leastHanging_28 (by decide) (fun c9 => ?_) (fun c9 => ?_)
      · rw [if_pos c9] at h
        refine WP.iinc (v := (q.2.2 + 1)) dX0_leastHanging_33 rfl rfl (by decide) rfl rfl ?_
        refine WP.goto (tgt := 2) dX0_leastHanging_36 (by decide) ?_
        refine WP.fgt [true, true, true, true] rfl ?_
        exact hK2 (q.1, q.2.1, (q.2.2 + 1)) _ h
      · rw [if_neg c9] at h
        refine WP.iload_n dX0_leastHanging_31 rfl rfl ?_
        cases h
        exact WP.iret dX0_leastHanging_32 ⟨rfl, rfl⟩
set_option maxRecDepth 20000 in
theorem TX0_leastHanging {l : Launch} {G : va_G} {tc : Nat → ClassId} {D : Nat → Nat} {N : Nat} {x1 : Int32} {x2 : Int32} {M : Mm} {R : Int32} (h : FX0_leastHanging N x1 x2 M = some R) : WP l G tc D lay (fun _ => True) yX0_leastHanging.cls cX0_leastHanging 4 rX0_leastHanging (.code yX0_leastHanging cX0_leastHanging 4 (some .int)) 0 (entL 4 [.ref 2, .int x1, .int x2]) [] M (RetQ cX0_leastHanging (some .int) (RQI R M)) := by
  show WP l G tc D lay (fun _ => True) RX0 cX0_leastHanging 4 rX0_leastHanging (.code yX0_leastHanging cX0_leastHanging 4 (some .int)) 0 [some (.ref 2), some (.int x1), some (.int x2), none] [] M (RetQ cX0_leastHanging (some .int) (RQI R M))
  unfold FX0_leastHanging at h
  refine WP.iconst (v := 0) dX0_leastHanging_0 (by decide) ?_
  refine WP.istore_n dX0_leastHanging_1 rfl (by decide) rfl rfl ?_
  refine WP.fgt [true, true, true, true] rfl ?_
  exact tX0_leastHanging_2  N (x1, x2, 0) _ h
/-! X1_begin -/
def rX1_begin : Room := { frames := 0, cells := 0, slots := 0, locals := 0 }
def FX1_begin (M : Mm) : Option Mm :=
  (wrF M 41 1 0).bind fun M1 => some M1
set_option maxRecDepth 20000 in
theorem TX1_begin {l : Launch} {G : va_G} {tc : Nat → ClassId} {D : Nat → Nat} {M : Mm} {R : Mm} (h : FX1_begin M = some R) : WP l G tc D lay (fun _ => True) yX1_begin.cls cX1_begin 1 rX1_begin (.code yX1_begin cX1_begin 1 none) 0 (entL 1 [.ref 41]) [] M (RetQ cX1_begin none (RQV R)) := by
  show WP l G tc D lay (fun _ => True) RX1 cX1_begin 1 rX1_begin (.code yX1_begin cX1_begin 1 none) 0 [some (.ref 41)] [] M (RetQ cX1_begin none (RQV R))
  unfold FX1_begin at h
  refine WP.aload_n dX1_begin_0 rfl rfl ?_
  refine WP.iconst (v := 0) dX1_begin_1 (by decide) ?_
  obtain ⟨M1, h2, h⟩ := Option.bind_eq_some_iff.mp h
  refine WP.putF (j := 1) (ty := .int) dX1_begin_2 rfl rfl in_X1 tyX1_ok nmX1 (by decide) wd_233 rfl (by decide +kernel) rfl rfl rfl h2 ?_
  cases h
  exact WP.vret dX1_begin_5 ⟨rfl, rfl⟩
/-! X1_joinOne -/
def rX1_joinOne : Room := { frames := 0, cells := 0, slots := 0, locals := 0 }
def FX1_joinOne (x1 : Int32) (x2 : Int32) (x3 : Int32) (x4 : Int32) (M : Mm) : Option (Int32 × Mm) :=
  (if x3 = x4 then some (x3, M) else (if x4 = x2 then some (x3, M) else (if x3 = x2 then some (x4, M) else (if 12 ≤ (M.1 41 1) then some (x3, M) else (wrI M 42 12 (M.1 41 1) x1).bind fun M5 => (wrF M5 41 1 ((M5.1 41 1) + 1)).bind fun M7 => some (x3, M7)))))
set_option maxRecDepth 20000 in
theorem TX1_joinOne {l : Launch} {G : va_G} {tc : Nat → ClassId} {D : Nat → Nat} {x1 : Int32} {x2 : Int32} {x3 : Int32} {x4 : Int32} {M : Mm} {R : (Int32 × Mm)} (h : FX1_joinOne x1 x2 x3 x4 M = some R) : WP l G tc D lay (fun _ => True) yX1_joinOne.cls cX1_joinOne 5 rX1_joinOne (.code yX1_joinOne cX1_joinOne 5 (some .int)) 0 (entL 5 [.ref 41, .int x1, .int x2, .int x3, .int x4]) [] M (RetQ cX1_joinOne (some .int) (RQI R.1 R.2)) := by
  show WP l G tc D lay (fun _ => True) RX1 cX1_joinOne 5 rX1_joinOne (.code yX1_joinOne cX1_joinOne 5 (some .int)) 0 [some (.ref 41), some (.int x1), some (.int x2), some (.int x3), some (.int x4)] [] M (RetQ cX1_joinOne (some .int) (RQI R.1 R.2))
  unfold FX1_joinOne at h
  refine WP.iload_n dX1_joinOne_0 rfl rfl ?_
  refine WP.iload dX1_joinOne_1 rfl ?_
  refine WP.icmp_eq (tgt := 12) dX1_joinOne_3 (by decide) (fun c1 => ?_) (fun c1 => ?_)
  · rw [if_pos c1] at h
    refine WP.iload_n dX1_joinOne_12 rfl rfl ?_
    cases h
    exact WP.iret dX1_joinOne_13 ⟨rfl, rfl⟩
  · rw [if_neg c1] at h
    refine WP.iload dX1_joinOne_6 rfl ?_
    refine WP.iload_n dX1_joinOne_8 rfl rfl ?_
    refine WP.icmp_ne (tgt := 14) dX1_joinOne_9 (by decide) (fun c2 => ?_) (fun c2 => ?_)
    · rw [if_neg c2] at h
      refine WP.iload_n dX1_joinOne_14 rfl rfl ?_
      refine WP.iload_n dX1_joinOne_15 rfl rfl ?_
      refine WP.icmp_ne (tgt := 22) dX1_joinOne_16 (by decide) (fun c3 => ?_) (fun c3 => ?_)
      · rw [if_neg c3] at h
        refine WP.aload_n dX1_joinOne_22 rfl rfl ?_
        refine WP.getI (j := 1) dX1_joinOne_23 rfl rfl in_X1 (by decide) wd_233 rfl ?_
        refine WP.bipush (v := 12) dX1_joinOne_26 (by decide) ?_
        refine WP.icmp_ge (tgt := 51) dX1_joinOne_28 (by decide) (fun c4 => ?_) (fun c4 => ?_)
        · rw [if_pos c4] at h
          refine WP.iload_n dX1_joinOne_51 rfl rfl ?_
          cases h
          exact WP.iret dX1_joinOne_52 ⟨rfl, rfl⟩
        · rw [if_neg c4] at h
          refine WP.aload_n dX1_joinOne_31 rfl rfl ?_
          refine WP.getR (j := 0) dX1_joinOne_32 rfl rfl in_X1 (by decide) wd_231 rfl ?_
          refine WP.aload_n dX1_joinOne_35 rfl rfl ?_
          refine WP.getI (j := 1) dX1_joinOne_36 rfl rfl in_X1 (by decide) wd_233 rfl ?_
          refine WP.iload_n dX1_joinOne_39 rfl rfl ?_
          obtain ⟨M5, h6, h⟩ := Option.bind_eq_some_iff.mp h
          refine WP.iastQ dX1_joinOne_40 rfl h6 ?_
          refine WP.aload_n dX1_joinOne_41 rfl rfl ?_
          refine WP.dup dX1_joinOne_42 rfl ?_
          refine WP.getI (j := 1) dX1_joinOne_43 rfl rfl in_X1 (by decide) wd_233 rfl ?_
          refine WP.iconst (v := 1) dX1_joinOne_46 (by decide) ?_
          refine WP.iadd dX1_joinOne_47 ?_
          obtain ⟨M7, h8, h⟩ := Option.bind_eq_some_iff.mp h
          refine WP.putF (j := 1) (ty := .int) dX1_joinOne_48 rfl rfl in_X1 tyX1_ok nmX1 (by decide) wd_233 rfl (by decide +kernel) rfl rfl rfl h8 ?_
          refine WP.iload_n dX1_joinOne_51 rfl rfl ?_
          cases h
          exact WP.iret dX1_joinOne_52 ⟨rfl, rfl⟩
      · rw [if_pos c3] at h
        refine WP.iload dX1_joinOne_19 rfl ?_
        cases h
        exact WP.iret dX1_joinOne_21 ⟨rfl, rfl⟩
    · rw [if_pos c2] at h
      refine WP.iload_n dX1_joinOne_12 rfl rfl ?_
      cases h
      exact WP.iret dX1_joinOne_13 ⟨rfl, rfl⟩
/-! X3_answersOfRule -/
def rX3_answersOfRule : Room := { frames := 0, cells := 0, slots := 0, locals := 0 }
def FX3_answersOfRule (x1 : Int32) (M : Mm) : Option Int32 :=
  (if x1 = (-9) then some 0 else (rdI M 26 50 x1).bind fun v2 => some v2)
set_option maxRecDepth 20000 in
theorem TX3_answersOfRule {l : Launch} {G : va_G} {tc : Nat → ClassId} {D : Nat → Nat} {x1 : Int32} {M : Mm} {R : Int32} (h : FX3_answersOfRule x1 M = some R) : WP l G tc D lay (fun _ => True) yX3_answersOfRule.cls cX3_answersOfRule 2 rX3_answersOfRule (.code yX3_answersOfRule cX3_answersOfRule 2 (some .int)) 0 (entL 2 [.ref 21, .int x1]) [] M (RetQ cX3_answersOfRule (some .int) (RQI R M)) := by
  show WP l G tc D lay (fun _ => True) RX3 cX3_answersOfRule 2 rX3_answersOfRule (.code yX3_answersOfRule cX3_answersOfRule 2 (some .int)) 0 [some (.ref 21), some (.int x1)] [] M (RetQ cX3_answersOfRule (some .int) (RQI R M))
  unfold FX3_answersOfRule at h
  refine WP.iload_n dX3_answersOfRule_0 rfl rfl ?_
  refine WP.bipush (v := (-9)) dX3_answersOfRule_1 (by decide) ?_
  refine WP.icmp_ne (tgt := 10) dX3_answersOfRule_3 (by decide) (fun c1 => ?_) (fun c1 => ?_)
  · rw [if_neg c1] at h
    refine WP.aload_n dX3_answersOfRule_10 rfl rfl ?_
    refine WP.getR (j := 4) dX3_answersOfRule_11 rfl rfl in_X3 (by decide) wd_141 rfl ?_
    refine WP.iload_n dX3_answersOfRule_14 rfl rfl ?_
    obtain ⟨v2, h3, h⟩ := Option.bind_eq_some_iff.mp h
    refine WP.ialdQ dX3_answersOfRule_15 rfl h3 ?_
    cases h
    exact WP.iret dX3_answersOfRule_16 ⟨rfl, rfl⟩
  · rw [if_pos c1] at h
    refine WP.iconst (v := 0) dX3_answersOfRule_6 (by decide) ?_
    refine WP.goto (tgt := 16) dX3_answersOfRule_7 (by decide) ?_
    cases h
    exact WP.iret dX3_answersOfRule_16 ⟨rfl, rfl⟩
/-! X2_directWith -/
def rX2_directWith : Room := { frames := 1, cells := 0, slots := 0, locals := 21 }
def BX2_directWith_41 (a4 : Int32) (t0 : Int32) (M : Mm) : Option Int32 :=
  (FX3_answersOfRule a4 M).bind fun r2 => (FX3_answersOfRule t0 M).bind fun r4 => some (r2 ||| r4)
def BX2_directWith_19 (a1 : Int32) (a2 : Int32) (a3 : Int32) (t0 : Int32) (M : Mm) : Option Int32 :=
  (if a2 = 3 then BX2_directWith_41 t0 a3 M else (ckR 7 12 a1).bind fun k2 => (rdI M k2 4 3).bind fun v4 => BX2_directWith_41 t0 v4 M)
def FX2_directWith (x1 : Int32) (x2 : Int32) (x3 : Int32) (M : Mm) : Option Int32 :=
  (if x2 = 0 then BX2_directWith_19 x1 x2 x3 x3 M else (ckR 7 12 x1).bind fun k2 => (rdI M k2 4 0).bind fun v4 => BX2_directWith_19 x1 x2 x3 v4 M)
set_option maxRecDepth 20000 in
theorem tX2_directWith_41 {l : Launch} {G : va_G} {tc : Nat → ClassId} {D : Nat → Nat} {a4 : Int32} {t0 : Int32} {M : Mm} {R : Int32} (h : BX2_directWith_41 a4 t0 M = some R) : WP l G tc D lay (fun _ => True) RX2 cX2_directWith 6 rX2_directWith (.code yX2_directWith cX2_directWith 6 (some .int)) 41 [some (.ref 1), none, none, none, some (.int a4), none] [.int t0] M (RetQ cX2_directWith (some .int) (RQI R M)) := by
  unfold BX2_directWith_41 at h
  refine WP.istore dX2_directWith_41 (by decide) rfl rfl ?_
  refine WP.aload_n dX2_directWith_43 rfl rfl ?_
  refine WP.getR (j := 1) dX2_directWith_44 rfl rfl in_X2 (by decide) wd_163 rfl ?_
  refine WP.iload dX2_directWith_47 rfl ?_
  obtain ⟨r2, h1, h⟩ := Option.bind_eq_some_iff.mp h
  refine WP.callVI [.int a4] dX2_directWith_49 lk_X2_39 rfl rfl rfl (Nat.le_of_ble_eq_true rfl) (by decide) (Nat.le_of_ble_eq_true rfl) rfl (TX3_answersOfRule h1) ?_
  refine WP.aload_n dX2_directWith_52 rfl rfl ?_
  refine WP.getR (j := 1) dX2_directWith_53 rfl rfl in_X2 (by decide) wd_163 rfl ?_
  refine WP.iload dX2_directWith_56 rfl ?_
  obtain ⟨r4, h3, h⟩ := Option.bind_eq_some_iff.mp h
  refine WP.callVI [.int t0] dX2_directWith_58 lk_X2_39 rfl rfl rfl (Nat.le_of_ble_eq_true rfl) (by decide) (Nat.le_of_ble_eq_true rfl) rfl (TX3_answersOfRule h3) ?_
  refine WP.ior dX2_directWith_61 ?_
  cases h
  exact WP.iret dX2_directWith_62 ⟨rfl, rfl⟩
set_option maxRecDepth 20000 in
theorem tX2_directWith_19 {l : Launch} {G : va_G} {tc : Nat → ClassId} {D : Nat → Nat} {a1 : Int32} {a2 : Int32} {a3 : Int32} {t0 : Int32} {M : Mm} {R : Int32} (h : BX2_directWith_19 a1 a2 a3 t0 M = some R) : WP l G tc D lay (fun _ => True) RX2 cX2_directWith 6 rX2_directWith (.code yX2_directWith cX2_directWith 6 (some .int)) 19 [some (.ref 1), some (.int a1), some (.int a2), some (.int a3), none, none] [.int t0] M (RetQ cX2_directWith (some .int) (RQI R M)) := by
  unfold BX2_directWith_19 at h
  refine WP.istore dX2_directWith_19 (by decide) rfl rfl ?_
  refine WP.iload_n dX2_directWith_21 rfl rfl ?_
  refine WP.iconst (v := 3) dX2_directWith_22 (by decide) ?_
  refine WP.icmp_ne (tgt := 30) dX2_directWith_23 (by decide) (fun c1 => ?_) (fun c1 => ?_)
  · rw [if_neg c1] at h
    refine WP.aload_n dX2_directWith_30 rfl rfl ?_
    refine WP.getR (j := 0) dX2_directWith_31 rfl rfl in_X2 (by decide) wd_159 rfl ?_
    refine WP.getR (j := 3) dX2_directWith_34 rfl rfl in_X0 (by decide) wd_95 rfl ?_
    refine WP.iload_n dX2_directWith_37 rfl rfl ?_
    obtain ⟨k2, h3, h⟩ := Option.bind_eq_some_iff.mp h
    refine WP.aaldQ (base := 7) (n := 12) dX2_directWith_38 rfl rfl h3 ?_
    have hk2 := rows_6 h3
    refine WP.iconst (v := 3) dX2_directWith_39 (by decide) ?_
    obtain ⟨v4, h5, h⟩ := Option.bind_eq_some_iff.mp h
    refine WP.ialdQ dX2_directWith_40 hk2 h5 ?_
    refine WP.fgt [true, false, false, false, true, false] rfl ?_
    exact tX2_directWith_41  h
  · rw [if_pos c1] at h
    refine WP.iload_n dX2_directWith_26 rfl rfl ?_
    refine WP.goto (tgt := 41) dX2_directWith_27 (by decide) ?_
    refine WP.fgt [true, false, false, false, true, false] rfl ?_
    exact tX2_directWith_41  h
set_option maxRecDepth 20000 in
theorem TX2_directWith {l : Launch} {G : va_G} {tc : Nat → ClassId} {D : Nat → Nat} {x1 : Int32} {x2 : Int32} {x3 : Int32} {M : Mm} {R : Int32} (h : FX2_directWith x1 x2 x3 M = some R) : WP l G tc D lay (fun _ => True) yX2_directWith.cls cX2_directWith 6 rX2_directWith (.code yX2_directWith cX2_directWith 6 (some .int)) 0 (entL 6 [.ref 1, .int x1, .int x2, .int x3]) [] M (RetQ cX2_directWith (some .int) (RQI R M)) := by
  show WP l G tc D lay (fun _ => True) RX2 cX2_directWith 6 rX2_directWith (.code yX2_directWith cX2_directWith 6 (some .int)) 0 [some (.ref 1), some (.int x1), some (.int x2), some (.int x3), none, none] [] M (RetQ cX2_directWith (some .int) (RQI R M))
  unfold FX2_directWith at h
  refine WP.iload_n dX2_directWith_0 rfl rfl ?_
  refine WP.if_ne (tgt := 8) dX2_directWith_1 (by decide) (fun c1 => ?_) (fun c1 => ?_)
  · rw [if_neg c1] at h
    refine WP.aload_n dX2_directWith_8 rfl rfl ?_
    refine WP.getR (j := 0) dX2_directWith_9 rfl rfl in_X2 (by decide) wd_159 rfl ?_
    refine WP.getR (j := 3) dX2_directWith_12 rfl rfl in_X0 (by decide) wd_95 rfl ?_
    refine WP.iload_n dX2_directWith_15 rfl rfl ?_
    obtain ⟨k2, h3, h⟩ := Option.bind_eq_some_iff.mp h
    refine WP.aaldQ (base := 7) (n := 12) dX2_directWith_16 rfl rfl h3 ?_
    have hk2 := rows_6 h3
    refine WP.iconst (v := 0) dX2_directWith_17 (by decide) ?_
    obtain ⟨v4, h5, h⟩ := Option.bind_eq_some_iff.mp h
    refine WP.ialdQ dX2_directWith_18 hk2 h5 ?_
    refine WP.fgt [true, true, true, true, false, false] rfl ?_
    exact tX2_directWith_19  h
  · rw [if_pos c1] at h
    refine WP.iload_n dX2_directWith_4 rfl rfl ?_
    refine WP.goto (tgt := 19) dX2_directWith_5 (by decide) ?_
    refine WP.fgt [true, true, true, true, false, false] rfl ?_
    exact tX2_directWith_19  h
/-! J6_bitCount_0f7a4 -/
def rJ6_bitCount_0f7a4 : Room := { frames := 0, cells := 0, slots := 0, locals := 0 }
def FJ6_bitCount_0f7a4 (x1 : Int32) (M : Mm) : Option Int32 :=
  some ((((((((x1 - ((x1.toUInt32 >>> ((1 : Int32).toUInt32 &&& Int32.toUInt32 31)).toInt32 &&& 1431655765)) &&& 858993459) + (((x1 - ((x1.toUInt32 >>> ((1 : Int32).toUInt32 &&& Int32.toUInt32 31)).toInt32 &&& 1431655765)).toUInt32 >>> ((2 : Int32).toUInt32 &&& Int32.toUInt32 31)).toInt32 &&& 858993459)) + ((((x1 - ((x1.toUInt32 >>> ((1 : Int32).toUInt32 &&& Int32.toUInt32 31)).toInt32 &&& 1431655765)) &&& 858993459) + (((x1 - ((x1.toUInt32 >>> ((1 : Int32).toUInt32 &&& Int32.toUInt32 31)).toInt32 &&& 1431655765)).toUInt32 >>> ((2 : Int32).toUInt32 &&& Int32.toUInt32 31)).toInt32 &&& 858993459)).toUInt32 >>> ((4 : Int32).toUInt32 &&& Int32.toUInt32 31)).toInt32) &&& 252645135) + ((((((x1 - ((x1.toUInt32 >>> ((1 : Int32).toUInt32 &&& Int32.toUInt32 31)).toInt32 &&& 1431655765)) &&& 858993459) + (((x1 - ((x1.toUInt32 >>> ((1 : Int32).toUInt32 &&& Int32.toUInt32 31)).toInt32 &&& 1431655765)).toUInt32 >>> ((2 : Int32).toUInt32 &&& Int32.toUInt32 31)).toInt32 &&& 858993459)) + ((((x1 - ((x1.toUInt32 >>> ((1 : Int32).toUInt32 &&& Int32.toUInt32 31)).toInt32 &&& 1431655765)) &&& 858993459) + (((x1 - ((x1.toUInt32 >>> ((1 : Int32).toUInt32 &&& Int32.toUInt32 31)).toInt32 &&& 1431655765)).toUInt32 >>> ((2 : Int32).toUInt32 &&& Int32.toUInt32 31)).toInt32 &&& 858993459)).toUInt32 >>> ((4 : Int32).toUInt32 &&& Int32.toUInt32 31)).toInt32) &&& 252645135).toUInt32 >>> ((8 : Int32).toUInt32 &&& Int32.toUInt32 31)).toInt32) + (((((((x1 - ((x1.toUInt32 >>> ((1 : Int32).toUInt32 &&& Int32.toUInt32 31)).toInt32 &&& 1431655765)) &&& 858993459) + (((x1 - ((x1.toUInt32 >>> ((1 : Int32).toUInt32 &&& Int32.toUInt32 31)).toInt32 &&& 1431655765)).toUInt32 >>> ((2 : Int32).toUInt32 &&& Int32.toUInt32 31)).toInt32 &&& 858993459)) + ((((x1 - ((x1.toUInt32 >>> ((1 : Int32).toUInt32 &&& Int32.toUInt32 31)).toInt32 &&& 1431655765)) &&& 858993459) + (((x1 - ((x1.toUInt32 >>> ((1 : Int32).toUInt32 &&& Int32.toUInt32 31)).toInt32 &&& 1431655765)).toUInt32 >>> ((2 : Int32).toUInt32 &&& Int32.toUInt32 31)).toInt32 &&& 858993459)).toUInt32 >>> ((4 : Int32).toUInt32 &&& Int32.toUInt32 31)).toInt32) &&& 252645135) + ((((((x1 - ((x1.toUInt32 >>> ((1 : Int32).toUInt32 &&& Int32.toUInt32 31)).toInt32 &&& 1431655765)) &&& 858993459) + (((x1 - ((x1.toUInt32 >>> ((1 : Int32).toUInt32 &&& Int32.toUInt32 31)).toInt32 &&& 1431655765)).toUInt32 >>> ((2 : Int32).toUInt32 &&& Int32.toUInt32 31)).toInt32 &&& 858993459)) + ((((x1 - ((x1.toUInt32 >>> ((1 : Int32).toUInt32 &&& Int32.toUInt32 31)).toInt32 &&& 1431655765)) &&& 858993459) + (((x1 - ((x1.toUInt32 >>> ((1 : Int32).toUInt32 &&& Int32.toUInt32 31)).toInt32 &&& 1431655765)).toUInt32 >>> ((2 : Int32).toUInt32 &&& Int32.toUInt32 31)).toInt32 &&& 858993459)).toUInt32 >>> ((4 : Int32).toUInt32 &&& Int32.toUInt32 31)).toInt32) &&& 252645135).toUInt32 >>> ((8 : Int32).toUInt32 &&& Int32.toUInt32 31)).toInt32).toUInt32 >>> ((16 : Int32).toUInt32 &&& Int32.toUInt32 31)).toInt32) &&& 63)
set_option maxRecDepth 20000 in
theorem TJ6_bitCount_0f7a4 {l : Launch} {G : va_G} {tc : Nat → ClassId} {D : Nat → Nat} {x1 : Int32} {M : Mm} {R : Int32} (h : FJ6_bitCount_0f7a4 x1 M = some R) : WP l G tc D lay (fun _ => True) yJ6_bitCount_0f7a4.cls cJ6_bitCount_0f7a4 1 rJ6_bitCount_0f7a4 (.code yJ6_bitCount_0f7a4 cJ6_bitCount_0f7a4 1 (some .int)) 0 (entL 1 [.int x1]) [] M (RetQ cJ6_bitCount_0f7a4 (some .int) (RQI R M)) := by
  show WP l G tc D lay (fun _ => True) RJ6 cJ6_bitCount_0f7a4 1 rJ6_bitCount_0f7a4 (.code yJ6_bitCount_0f7a4 cJ6_bitCount_0f7a4 1 (some .int)) 0 [some (.int x1)] [] M (RetQ cJ6_bitCount_0f7a4 (some .int) (RQI R M))
  unfold FJ6_bitCount_0f7a4 at h
  refine WP.iload_n dJ6_bitCount_0f7a4_0 rfl rfl ?_
  refine WP.iload_n dJ6_bitCount_0f7a4_1 rfl rfl ?_
  refine WP.iconst (v := 1) dJ6_bitCount_0f7a4_2 (by decide) ?_
  refine WP.iushr dJ6_bitCount_0f7a4_3 ?_
  refine WP.ldcw (v := 1431655765) dJ6_bitCount_0f7a4_4 wd_359 ?_
  refine WP.iand dJ6_bitCount_0f7a4_7 ?_
  refine WP.isub dJ6_bitCount_0f7a4_8 ?_
  refine WP.istore_n dJ6_bitCount_0f7a4_9 rfl (by decide) rfl rfl ?_
  refine WP.iload_n dJ6_bitCount_0f7a4_10 rfl rfl ?_
  refine WP.ldcw (v := 858993459) dJ6_bitCount_0f7a4_11 wd_360 ?_
  refine WP.iand dJ6_bitCount_0f7a4_14 ?_
  refine WP.iload_n dJ6_bitCount_0f7a4_15 rfl rfl ?_
  refine WP.iconst (v := 2) dJ6_bitCount_0f7a4_16 (by decide) ?_
  refine WP.iushr dJ6_bitCount_0f7a4_17 ?_
  refine WP.ldcw (v := 858993459) dJ6_bitCount_0f7a4_18 wd_360 ?_
  refine WP.iand dJ6_bitCount_0f7a4_21 ?_
  refine WP.iadd dJ6_bitCount_0f7a4_22 ?_
  refine WP.istore_n dJ6_bitCount_0f7a4_23 rfl (by decide) rfl rfl ?_
  refine WP.iload_n dJ6_bitCount_0f7a4_24 rfl rfl ?_
  refine WP.iload_n dJ6_bitCount_0f7a4_25 rfl rfl ?_
  refine WP.iconst (v := 4) dJ6_bitCount_0f7a4_26 (by decide) ?_
  refine WP.iushr dJ6_bitCount_0f7a4_27 ?_
  refine WP.iadd dJ6_bitCount_0f7a4_28 ?_
  refine WP.ldcw (v := 252645135) dJ6_bitCount_0f7a4_29 wd_361 ?_
  refine WP.iand dJ6_bitCount_0f7a4_32 ?_
  refine WP.istore_n dJ6_bitCount_0f7a4_33 rfl (by decide) rfl rfl ?_
  refine WP.iload_n dJ6_bitCount_0f7a4_34 rfl rfl ?_
  refine WP.iload_n dJ6_bitCount_0f7a4_35 rfl rfl ?_
  refine WP.bipush (v := 8) dJ6_bitCount_0f7a4_36 (by decide) ?_
  refine WP.iushr dJ6_bitCount_0f7a4_38 ?_
  refine WP.iadd dJ6_bitCount_0f7a4_39 ?_
  refine WP.istore_n dJ6_bitCount_0f7a4_40 rfl (by decide) rfl rfl ?_
  refine WP.iload_n dJ6_bitCount_0f7a4_41 rfl rfl ?_
  refine WP.iload_n dJ6_bitCount_0f7a4_42 rfl rfl ?_
  refine WP.bipush (v := 16) dJ6_bitCount_0f7a4_43 (by decide) ?_
  refine WP.iushr dJ6_bitCount_0f7a4_45 ?_
  refine WP.iadd dJ6_bitCount_0f7a4_46 ?_
  refine WP.istore_n dJ6_bitCount_0f7a4_47 rfl (by decide) rfl rfl ?_
  refine WP.iload_n dJ6_bitCount_0f7a4_48 rfl rfl ?_
  refine WP.bipush (v := 63) dJ6_bitCount_0f7a4_49 (by decide) ?_
  refine WP.iand dJ6_bitCount_0f7a4_51 ?_
  cases h
  exact WP.iret dJ6_bitCount_0f7a4_52 ⟨rfl, rfl⟩
/-! X2_addStep -/
def rX2_addStep : Room := { frames := 0, cells := 0, slots := 0, locals := 0 }
def FX2_addStep (x1 : Int32) (x2 : Int32) (M : Mm) : Option Mm :=
  (if (Int32.ofNat 62) ≤ (M.1 1 5) then some M else (wrI M 27 62 (M.1 1 5) x1).bind fun M2 => (wrI M2 28 62 (M2.1 1 5) x2).bind fun M4 => (wrF M4 1 5 ((M4.1 1 5) + 1)).bind fun M6 => some M6)
set_option maxRecDepth 20000 in
theorem TX2_addStep {l : Launch} {G : va_G} {tc : Nat → ClassId} {D : Nat → Nat} {x1 : Int32} {x2 : Int32} {M : Mm} {R : Mm} (h : FX2_addStep x1 x2 M = some R) : WP l G tc D lay (fun _ => True) yX2_addStep.cls cX2_addStep 3 rX2_addStep (.code yX2_addStep cX2_addStep 3 none) 0 (entL 3 [.ref 1, .int x1, .int x2]) [] M (RetQ cX2_addStep none (RQV R)) := by
  show WP l G tc D lay (fun _ => True) RX2 cX2_addStep 3 rX2_addStep (.code yX2_addStep cX2_addStep 3 none) 0 [some (.ref 1), some (.int x1), some (.int x2)] [] M (RetQ cX2_addStep none (RQV R))
  unfold FX2_addStep at h
  refine WP.aload_n dX2_addStep_0 rfl rfl ?_
  refine WP.getI (j := 5) dX2_addStep_1 rfl rfl in_X2 (by decide) wd_172 rfl ?_
  refine WP.aload_n dX2_addStep_4 rfl rfl ?_
  refine WP.getR (j := 2) dX2_addStep_5 rfl rfl in_X2 (by decide) wd_166 rfl ?_
  refine WP.alen dX2_addStep_8 rfl rfl ?_
  refine WP.icmp_ge (tgt := 42) dX2_addStep_9 (by decide) (fun c1 => ?_) (fun c1 => ?_)
  · rw [if_pos c1] at h
    cases h
    exact WP.vret dX2_addStep_42 ⟨rfl, rfl⟩
  · rw [if_neg c1] at h
    refine WP.aload_n dX2_addStep_12 rfl rfl ?_
    refine WP.getR (j := 2) dX2_addStep_13 rfl rfl in_X2 (by decide) wd_166 rfl ?_
    refine WP.aload_n dX2_addStep_16 rfl rfl ?_
    refine WP.getI (j := 5) dX2_addStep_17 rfl rfl in_X2 (by decide) wd_172 rfl ?_
    refine WP.iload_n dX2_addStep_20 rfl rfl ?_
    obtain ⟨M2, h3, h⟩ := Option.bind_eq_some_iff.mp h
    refine WP.iastQ dX2_addStep_21 rfl h3 ?_
    refine WP.aload_n dX2_addStep_22 rfl rfl ?_
    refine WP.getR (j := 3) dX2_addStep_23 rfl rfl in_X2 (by decide) wd_168 rfl ?_
    refine WP.aload_n dX2_addStep_26 rfl rfl ?_
    refine WP.getI (j := 5) dX2_addStep_27 rfl rfl in_X2 (by decide) wd_172 rfl ?_
    refine WP.iload_n dX2_addStep_30 rfl rfl ?_
    obtain ⟨M4, h5, h⟩ := Option.bind_eq_some_iff.mp h
    refine WP.iastQ dX2_addStep_31 rfl h5 ?_
    refine WP.aload_n dX2_addStep_32 rfl rfl ?_
    refine WP.dup dX2_addStep_33 rfl ?_
    refine WP.getI (j := 5) dX2_addStep_34 rfl rfl in_X2 (by decide) wd_172 rfl ?_
    refine WP.iconst (v := 1) dX2_addStep_37 (by decide) ?_
    refine WP.iadd dX2_addStep_38 ?_
    obtain ⟨M6, h7, h⟩ := Option.bind_eq_some_iff.mp h
    refine WP.putF (j := 5) (ty := .int) dX2_addStep_39 rfl rfl in_X2 tyX2_ok nmX2 (by decide) wd_172 rfl (by decide +kernel) rfl rfl rfl h7 ?_
    cases h
    exact WP.vret dX2_addStep_42 ⟨rfl, rfl⟩
/-! X2_arrange -/
def rX2_arrange : Room := { frames := 2, cells := 0, slots := 0, locals := 44 }
def BX2_arrange_99 (N : Nat) (K48 : Int32 × Mm → Option Mm) (K99 : Int32 × Int32 × Mm → Option Mm) (q : Int32 × Int32 × Mm) : Option Mm :=
  (if (q.2.2.1 2 6) ≤ q.2.1 then K48 ((q.1 + 1), q.2.2) else (rdI q.2.2 20 12 q.2.1).bind fun v2 => (FJ6_bitCount_0f7a4 v2 q.2.2).bind fun r5 => (if r5 = q.1 then (rdI q.2.2 20 12 q.2.1).bind fun v7 => (FX2_addStep ((50 : Int32) + q.2.1) (v7 ||| ((1 : Int32) <<< (q.2.1 &&& 31))) q.2.2).bind fun M10 => K99 (q.1, (q.2.1 + 1), M10) else K99 (q.1, (q.2.1 + 1), q.2.2)))
def BX2_arrange_56 (N : Nat) (K48 : Int32 × Mm → Option Mm) (K56 : Int32 × Int32 × Mm → Option Mm) (q : Int32 × Int32 × Mm) : Option Mm :=
  (if (q.2.2.1 21 5) ≤ q.2.1 then lp (BX2_arrange_99 N K48) N (q.1, 0, q.2.2) else (rdI q.2.2 29 50 q.2.1).bind fun v2 => (FJ6_bitCount_0f7a4 v2 q.2.2).bind fun r5 => (if r5 = q.1 then (rdI q.2.2 29 50 q.2.1).bind fun v7 => (FX2_addStep q.2.1 v7 q.2.2).bind fun M10 => K56 (q.1, (q.2.1 + 1), M10) else K56 (q.1, (q.2.1 + 1), q.2.2)))
def BX2_arrange_48 (N : Nat) (K48 : Int32 × Mm → Option Mm) (q : Int32 × Mm) : Option Mm :=
  (if 12 < q.1 then some q.2 else lp (BX2_arrange_56 N K48) N (q.1, 0, q.2))
def BX2_arrange_2 (N : Nat) (K2 : Int32 × Mm → Option Mm) (q : Int32 × Mm) : Option Mm :=
  (if (q.2.1 21 5) ≤ q.1 then (wrF q.2 1 5 0).bind fun M2 => lp (BX2_arrange_48 N) N (0, M2) else (rdI q.2 26 50 q.1).bind fun v4 => (FX0_spread N v4 q.2).bind fun r7 => (wrI q.2 29 50 q.1 r7).bind fun M8 => K2 ((q.1 + 1), M8))
def FX2_arrange (N : Nat) (M : Mm) : Option Mm :=
  lp (BX2_arrange_2 N) N (0, M)
set_option maxRecDepth 20000 in
theorem tX2_arrange_99 {l : Launch} {G : va_G} {tc : Nat → ClassId} {D : Nat → Nat} {N : Nat} {K48 : Int32 × Mm → Option Mm} (hK48 : ∀ (q : Int32 × Mm) (R : Mm), K48 q = some R → WP l G tc D lay (fun _ => True) RX2 cX2_arrange 3 rX2_arrange (.code yX2_arrange cX2_arrange 3 none) 48 [some (.ref 1), some (.int q.1), none] [] q.2 (RetQ cX2_arrange none (RQV R))) : ∀ (nn : Nat) (q : Int32 × Int32 × Mm) (R : Mm), lp (BX2_arrange_99 N K48) nn q = some R → WP l G tc D lay (fun _ => True) RX2 cX2_arrange 3 rX2_arrange (.code yX2_arrange cX2_arrange 3 none) 99 [some (.ref 1), some (.int q.1), some (.int q.2.1)] [] q.2.2 (RetQ cX2_arrange none (RQV R)) := by
  refine lp_ind (fun K99 hK99 q R h => ?_)
  unfold BX2_arrange_99 at h
  refine WP.iload_n dX2_arrange_99 rfl rfl ?_
  refine WP.aload_n dX2_arrange_100 rfl rfl ?_
  refine WP.getR (j := 0) dX2_arrange_101 rfl rfl in_X2 (by decide) wd_159 rfl ?_
  refine WP.getI (j := 6) dX2_arrange_104 rfl rfl in_X0 (by decide) wd_107 rfl ?_
  refine WP.icmp_ge (tgt := 153) dX2_arrange_107 (by decide) (fun c1 => ?_) (fun c1 => ?_)
  · rw [if_pos c1] at h
    refine WP.iinc (v := (q.1 + 1)) dX2_arrange_153 rfl rfl (by decide) rfl rfl ?_
    refine WP.goto (tgt := 48) dX2_arrange_156 (by decide) ?_
    refine WP.fgt [true, true, false] rfl ?_
    exact hK48 ((q.1 + 1), q.2.2) _ h
  · rw [if_neg c1] at h
    refine WP.aload_n dX2_arrange_110 rfl rfl ?_
    refine WP.getR (j := 0) dX2_arrange_111 rfl rfl in_X2 (by decide) wd_159 rfl ?_
    refine WP.getR (j := 5) dX2_arrange_114 rfl rfl in_X0 (by decide) wd_103 rfl ?_
    refine WP.iload_n dX2_arrange_117 rfl rfl ?_
    obtain ⟨v2, h3, h⟩ := Option.bind_eq_some_iff.mp h
    refine WP.ialdQ dX2_arrange_118 rfl h3 ?_
    obtain ⟨r5, h4, h⟩ := Option.bind_eq_some_iff.mp h
    refine WP.callSI [.int v2] dX2_arrange_119 lk_X2_69 rfl (Nat.le_of_ble_eq_true rfl) (by decide) (Nat.le_of_ble_eq_true rfl) rfl (TJ6_bitCount_0f7a4 h4) ?_
    refine WP.iload_n dX2_arrange_122 rfl rfl ?_
    refine WP.icmp_ne (tgt := 147) dX2_arrange_123 (by decide) (fun c6 => ?_) (fun c6 => ?_)
    · rw [if_neg c6] at h
      refine WP.iinc (v := (q.2.1 + 1)) dX2_arrange_147 rfl rfl (by decide) rfl rfl ?_
      refine WP.goto (tgt := 99) dX2_arrange_150 (by decide) ?_
      refine WP.fgt [true, true, true] rfl ?_
      exact hK99 (q.1, (q.2.1 + 1), q.2.2) _ h
    · rw [if_pos c6] at h
      refine WP.aload_n dX2_arrange_126 rfl rfl ?_
      refine WP.bipush (v := 50) dX2_arrange_127 (by decide) ?_
      refine WP.iload_n dX2_arrange_129 rfl rfl ?_
      refine WP.iadd dX2_arrange_130 ?_
      refine WP.aload_n dX2_arrange_131 rfl rfl ?_
      refine WP.getR (j := 0) dX2_arrange_132 rfl rfl in_X2 (by decide) wd_159 rfl ?_
      refine WP.getR (j := 5) dX2_arrange_135 rfl rfl in_X0 (by decide) wd_103 rfl ?_
      refine WP.iload_n dX2_arrange_138 rfl rfl ?_
      obtain ⟨v7, h8, h⟩ := Option.bind_eq_some_iff.mp h
      refine WP.ialdQ dX2_arrange_139 rfl h8 ?_
      refine WP.iconst (v := 1) dX2_arrange_140 (by decide) ?_
      refine WP.iload_n dX2_arrange_141 rfl rfl ?_
      refine WP.ishl dX2_arrange_142 ?_
      refine WP.ior dX2_arrange_143 ?_
      obtain ⟨M10, h9, h⟩ := Option.bind_eq_some_iff.mp h
      refine WP.callVV [.int ((50 : Int32) + q.2.1), .int (v7 ||| ((1 : Int32) <<< (q.2.1 &&& 31)))] dX2_arrange_144 lk_X2_74 rfl rfl rfl (Nat.le_of_ble_eq_true rfl) (by decide) (Nat.le_of_ble_eq_true rfl) rfl (TX2_addStep h9) ?_
      refine WP.iinc (v := (q.2.1 + 1)) dX2_arrange_147 rfl rfl (by decide) rfl rfl ?_
      refine WP.goto (tgt := 99) dX2_arrange_150 (by decide) ?_
      refine WP.fgt [true, true, true] rfl ?_
      exact hK99 (q.1, (q.2.1 + 1), M10) _ h
set_option maxRecDepth 20000 in
theorem tX2_arrange_56 {l : Launch} {G : va_G} {tc : Nat → ClassId} {D : Nat → Nat} {N : Nat} {K48 : Int32 × Mm → Option Mm} (hK48 : ∀ (q : Int32 × Mm) (R : Mm), K48 q = some R → WP l G tc D lay (fun _ => True) RX2 cX2_arrange 3 rX2_arrange (.code yX2_arrange cX2_arrange 3 none) 48 [some (.ref 1), some (.int q.1), none] [] q.2 (RetQ cX2_arrange none (RQV R))) : ∀ (nn : Nat) (q : Int32 × Int32 × Mm) (R : Mm), lp (BX2_arrange_56 N K48) nn q = some R → WP l G tc D lay (fun _ => True) RX2 cX2_arrange 3 rX2_arrange (.code yX2_arrange cX2_arrange 3 none) 56 [some (.ref 1), some (.int q.1), some (.int q.2.1)] [] q.2.2 (RetQ cX2_arrange none (RQV R)) := by
  refine lp_ind (fun K56 hK56 q R h => ?_)
  unfold BX2_arrange_56 at h
  refine WP.iload_n dX2_arrange_56 rfl rfl ?_
  refine WP.aload_n dX2_arrange_57 rfl rfl ?_
  refine WP.getR (j := 1) dX2_arrange_58 rfl rfl in_X2 (by decide) wd_163 rfl ?_
  refine WP.getI (j := 5) dX2_arrange_61 rfl rfl in_X3 (by decide) wd_144 rfl ?_
  refine WP.icmp_ge (tgt := 97) dX2_arrange_64 (by decide) (fun c1 => ?_) (fun c1 => ?_)
  · rw [if_pos c1] at h
    refine WP.iconst (v := 0) dX2_arrange_97 (by decide) ?_
    refine WP.istore_n dX2_arrange_98 rfl (by decide) rfl rfl ?_
    refine WP.fgt [true, true, true] rfl ?_
    exact tX2_arrange_99 hK48 N (q.1, 0, q.2.2) _ h
  · rw [if_neg c1] at h
    refine WP.aload_n dX2_arrange_67 rfl rfl ?_
    refine WP.getR (j := 4) dX2_arrange_68 rfl rfl in_X2 (by decide) wd_170 rfl ?_
    refine WP.iload_n dX2_arrange_71 rfl rfl ?_
    obtain ⟨v2, h3, h⟩ := Option.bind_eq_some_iff.mp h
    refine WP.ialdQ dX2_arrange_72 rfl h3 ?_
    obtain ⟨r5, h4, h⟩ := Option.bind_eq_some_iff.mp h
    refine WP.callSI [.int v2] dX2_arrange_73 lk_X2_69 rfl (Nat.le_of_ble_eq_true rfl) (by decide) (Nat.le_of_ble_eq_true rfl) rfl (TJ6_bitCount_0f7a4 h4) ?_
    refine WP.iload_n dX2_arrange_76 rfl rfl ?_
    refine WP.icmp_ne (tgt := 91) dX2_arrange_77 (by decide) (fun c6 => ?_) (fun c6 => ?_)
    · rw [if_neg c6] at h
      refine WP.iinc (v := (q.2.1 + 1)) dX2_arrange_91 rfl rfl (by decide) rfl rfl ?_
      refine WP.goto (tgt := 56) dX2_arrange_94 (by decide) ?_
      refine WP.fgt [true, true, true] rfl ?_
      exact hK56 (q.1, (q.2.1 + 1), q.2.2) _ h
    · rw [if_pos c6] at h
      refine WP.aload_n dX2_arrange_80 rfl rfl ?_
      refine WP.iload_n dX2_arrange_81 rfl rfl ?_
      refine WP.aload_n dX2_arrange_82 rfl rfl ?_
      refine WP.getR (j := 4) dX2_arrange_83 rfl rfl in_X2 (by decide) wd_170 rfl ?_
      refine WP.iload_n dX2_arrange_86 rfl rfl ?_
      obtain ⟨v7, h8, h⟩ := Option.bind_eq_some_iff.mp h
      refine WP.ialdQ dX2_arrange_87 rfl h8 ?_
      obtain ⟨M10, h9, h⟩ := Option.bind_eq_some_iff.mp h
      refine WP.callVV [.int q.2.1, .int v7] dX2_arrange_88 lk_X2_74 rfl rfl rfl (Nat.le_of_ble_eq_true rfl) (by decide) (Nat.le_of_ble_eq_true rfl) rfl (TX2_addStep h9) ?_
      refine WP.iinc (v := (q.2.1 + 1)) dX2_arrange_91 rfl rfl (by decide) rfl rfl ?_
      refine WP.goto (tgt := 56) dX2_arrange_94 (by decide) ?_
      refine WP.fgt [true, true, true] rfl ?_
      exact hK56 (q.1, (q.2.1 + 1), M10) _ h
set_option maxRecDepth 20000 in
theorem tX2_arrange_48 {l : Launch} {G : va_G} {tc : Nat → ClassId} {D : Nat → Nat} {N : Nat} : ∀ (nn : Nat) (q : Int32 × Mm) (R : Mm), lp (BX2_arrange_48 N) nn q = some R → WP l G tc D lay (fun _ => True) RX2 cX2_arrange 3 rX2_arrange (.code yX2_arrange cX2_arrange 3 none) 48 [some (.ref 1), some (.int q.1), none] [] q.2 (RetQ cX2_arrange none (RQV R)) := by
  refine lp_ind (fun K48 hK48 q R h => ?_)
  unfold BX2_arrange_48 at h
  refine WP.iload_n dX2_arrange_48 rfl rfl ?_
  refine WP.bipush (v := 12) dX2_arrange_49 (by decide) ?_
  refine WP.icmp_gt (tgt := 159) dX2_arrange_51 (by decide) (fun c1 => ?_) (fun c1 => ?_)
  · rw [if_pos c1] at h
    cases h
    exact WP.vret dX2_arrange_159 ⟨rfl, rfl⟩
  · rw [if_neg c1] at h
    refine WP.iconst (v := 0) dX2_arrange_54 (by decide) ?_
    refine WP.istore_n dX2_arrange_55 rfl (by decide) rfl rfl ?_
    refine WP.fgt [true, true, true] rfl ?_
    exact tX2_arrange_56 hK48 N (q.1, 0, q.2) _ h
set_option maxRecDepth 20000 in
theorem tX2_arrange_2 {l : Launch} {G : va_G} {tc : Nat → ClassId} {D : Nat → Nat} {N : Nat} : ∀ (nn : Nat) (q : Int32 × Mm) (R : Mm), lp (BX2_arrange_2 N) nn q = some R → WP l G tc D lay (fun _ => True) RX2 cX2_arrange 3 rX2_arrange (.code yX2_arrange cX2_arrange 3 none) 2 [some (.ref 1), some (.int q.1), none] [] q.2 (RetQ cX2_arrange none (RQV R)) := by
  refine lp_ind (fun K2 hK2 q R h => ?_)
  unfold BX2_arrange_2 at h
  refine WP.iload_n dX2_arrange_2 rfl rfl ?_
  refine WP.aload_n dX2_arrange_3 rfl rfl ?_
  refine WP.getR (j := 1) dX2_arrange_4 rfl rfl in_X2 (by decide) wd_163 rfl ?_
  refine WP.getI (j := 5) dX2_arrange_7 rfl rfl in_X3 (by decide) wd_144 rfl ?_
  refine WP.icmp_ge (tgt := 41) dX2_arrange_10 (by decide) (fun c1 => ?_) (fun c1 => ?_)
  · rw [if_pos c1] at h
    refine WP.aload_n dX2_arrange_41 rfl rfl ?_
    refine WP.iconst (v := 0) dX2_arrange_42 (by decide) ?_
    obtain ⟨M2, h3, h⟩ := Option.bind_eq_some_iff.mp h
    refine WP.putF (j := 5) (ty := .int) dX2_arrange_43 rfl rfl in_X2 tyX2_ok nmX2 (by decide) wd_172 rfl (by decide +kernel) rfl rfl rfl h3 ?_
    refine WP.iconst (v := 0) dX2_arrange_46 (by decide) ?_
    refine WP.istore_n dX2_arrange_47 rfl (by decide) rfl rfl ?_
    refine WP.fgt [true, true, false] rfl ?_
    exact tX2_arrange_48  N (0, M2) _ h
  · rw [if_neg c1] at h
    refine WP.aload_n dX2_arrange_13 rfl rfl ?_
    refine WP.getR (j := 4) dX2_arrange_14 rfl rfl in_X2 (by decide) wd_170 rfl ?_
    refine WP.iload_n dX2_arrange_17 rfl rfl ?_
    refine WP.aload_n dX2_arrange_18 rfl rfl ?_
    refine WP.getR (j := 0) dX2_arrange_19 rfl rfl in_X2 (by decide) wd_159 rfl ?_
    refine WP.aload_n dX2_arrange_22 rfl rfl ?_
    refine WP.getR (j := 1) dX2_arrange_23 rfl rfl in_X2 (by decide) wd_163 rfl ?_
    refine WP.getR (j := 4) dX2_arrange_26 rfl rfl in_X3 (by decide) wd_142 rfl ?_
    refine WP.iload_n dX2_arrange_29 rfl rfl ?_
    obtain ⟨v4, h5, h⟩ := Option.bind_eq_some_iff.mp h
    refine WP.ialdQ dX2_arrange_30 rfl h5 ?_
    obtain ⟨r7, h6, h⟩ := Option.bind_eq_some_iff.mp h
    refine WP.callVI [.int v4] dX2_arrange_31 lk_X2_63 rfl rfl rfl (Nat.le_of_ble_eq_true rfl) (by decide) (Nat.le_of_ble_eq_true rfl) rfl (TX0_spread h6) ?_
    obtain ⟨M8, h9, h⟩ := Option.bind_eq_some_iff.mp h
    refine WP.iastQ dX2_arrange_34 rfl h9 ?_
    refine WP.iinc (v := (q.1 + 1)) dX2_arrange_35 rfl rfl (by decide) rfl rfl ?_
    refine WP.goto (tgt := 2) dX2_arrange_38 (by decide) ?_
    refine WP.fgt [true, true, false] rfl ?_
    exact hK2 ((q.1 + 1), M8) _ h
set_option maxRecDepth 20000 in
theorem TX2_arrange {l : Launch} {G : va_G} {tc : Nat → ClassId} {D : Nat → Nat} {N : Nat} {M : Mm} {R : Mm} (h : FX2_arrange N M = some R) : WP l G tc D lay (fun _ => True) yX2_arrange.cls cX2_arrange 3 rX2_arrange (.code yX2_arrange cX2_arrange 3 none) 0 (entL 3 [.ref 1]) [] M (RetQ cX2_arrange none (RQV R)) := by
  show WP l G tc D lay (fun _ => True) RX2 cX2_arrange 3 rX2_arrange (.code yX2_arrange cX2_arrange 3 none) 0 [some (.ref 1), none, none] [] M (RetQ cX2_arrange none (RQV R))
  unfold FX2_arrange at h
  refine WP.iconst (v := 0) dX2_arrange_0 (by decide) ?_
  refine WP.istore_n dX2_arrange_1 rfl (by decide) rfl rfl ?_
  refine WP.fgt [true, true, false] rfl ?_
  exact tX2_arrange_2  N (0, M) _ h
/-! X2_setRule -/
def rX2_setRule : Room := { frames := 3, cells := 0, slots := 0, locals := 66 }
def FX2_setRule (N : Nat) (x1 : Int32) (x2 : Int32) (x3 : Int32) (M : Mm) : Option Mm :=
  (FX2_directWith x1 x2 x3 M).bind fun r2 => (wrI M 19 12 x1 r2).bind fun M3 => (ckR 7 12 x1).bind fun k5 => (wrI M3 k5 4 x2 x3).bind fun M7 => (FX0_spreadHangs N M7).bind fun M10 => (FX2_arrange N M10).bind fun M12 => some M12
set_option maxRecDepth 20000 in
theorem TX2_setRule {l : Launch} {G : va_G} {tc : Nat → ClassId} {D : Nat → Nat} {N : Nat} {x1 : Int32} {x2 : Int32} {x3 : Int32} {M : Mm} {R : Mm} (h : FX2_setRule N x1 x2 x3 M = some R) : WP l G tc D lay (fun _ => True) yX2_setRule.cls cX2_setRule 4 rX2_setRule (.code yX2_setRule cX2_setRule 4 none) 0 (entL 4 [.ref 1, .int x1, .int x2, .int x3]) [] M (RetQ cX2_setRule none (RQV R)) := by
  show WP l G tc D lay (fun _ => True) RX2 cX2_setRule 4 rX2_setRule (.code yX2_setRule cX2_setRule 4 none) 0 [some (.ref 1), some (.int x1), some (.int x2), some (.int x3)] [] M (RetQ cX2_setRule none (RQV R))
  unfold FX2_setRule at h
  refine WP.aload_n dX2_setRule_0 rfl rfl ?_
  refine WP.getR (j := 0) dX2_setRule_1 rfl rfl in_X2 (by decide) wd_159 rfl ?_
  refine WP.getR (j := 4) dX2_setRule_4 rfl rfl in_X0 (by decide) wd_100 rfl ?_
  refine WP.iload_n dX2_setRule_7 rfl rfl ?_
  refine WP.aload_n dX2_setRule_8 rfl rfl ?_
  refine WP.iload_n dX2_setRule_9 rfl rfl ?_
  refine WP.iload_n dX2_setRule_10 rfl rfl ?_
  refine WP.iload_n dX2_setRule_11 rfl rfl ?_
  obtain ⟨r2, h1, h⟩ := Option.bind_eq_some_iff.mp h
  refine WP.callVI [.int x1, .int x2, .int x3] dX2_setRule_12 lk_X2_46 rfl rfl rfl (Nat.le_of_ble_eq_true rfl) (by decide) (Nat.le_of_ble_eq_true rfl) rfl (TX2_directWith h1) ?_
  obtain ⟨M3, h4, h⟩ := Option.bind_eq_some_iff.mp h
  refine WP.iastQ dX2_setRule_15 rfl h4 ?_
  refine WP.aload_n dX2_setRule_16 rfl rfl ?_
  refine WP.getR (j := 0) dX2_setRule_17 rfl rfl in_X2 (by decide) wd_159 rfl ?_
  refine WP.getR (j := 3) dX2_setRule_20 rfl rfl in_X0 (by decide) wd_95 rfl ?_
  refine WP.iload_n dX2_setRule_23 rfl rfl ?_
  obtain ⟨k5, h6, h⟩ := Option.bind_eq_some_iff.mp h
  refine WP.aaldQ (base := 7) (n := 12) dX2_setRule_24 rfl rfl h6 ?_
  have hk5 := rows_6 h6
  refine WP.iload_n dX2_setRule_25 rfl rfl ?_
  refine WP.iload_n dX2_setRule_26 rfl rfl ?_
  obtain ⟨M7, h8, h⟩ := Option.bind_eq_some_iff.mp h
  refine WP.iastQ dX2_setRule_27 hk5 h8 ?_
  refine WP.aload_n dX2_setRule_28 rfl rfl ?_
  refine WP.getR (j := 0) dX2_setRule_29 rfl rfl in_X2 (by decide) wd_159 rfl ?_
  obtain ⟨M10, h9, h⟩ := Option.bind_eq_some_iff.mp h
  refine WP.callVV [] dX2_setRule_32 lk_X2_50 rfl rfl rfl (Nat.le_of_ble_eq_true rfl) (by decide) (Nat.le_of_ble_eq_true rfl) rfl (TX0_spreadHangs h9) ?_
  refine WP.aload_n dX2_setRule_35 rfl rfl ?_
  obtain ⟨M12, h11, h⟩ := Option.bind_eq_some_iff.mp h
  refine WP.callVV [] dX2_setRule_36 lk_X2_53 rfl rfl rfl (Nat.le_of_ble_eq_true rfl) (by decide) (Nat.le_of_ble_eq_true rfl) rfl (TX2_arrange h11) ?_
  cases h
  exact WP.vret dX2_setRule_39 ⟨rfl, rfl⟩
/-! X3_has -/
def rX3_has : Room := { frames := 0, cells := 0, slots := 0, locals := 0 }
def FX3_has (x1 : Int32) (M : Mm) : Option Int32 :=
  (if x1 < 0 then some 0 else (if (M.1 21 5) ≤ x1 then some 0 else some 1))
set_option maxRecDepth 20000 in
theorem TX3_has {l : Launch} {G : va_G} {tc : Nat → ClassId} {D : Nat → Nat} {x1 : Int32} {M : Mm} {R : Int32} (h : FX3_has x1 M = some R) : WP l G tc D lay (fun _ => True) yX3_has.cls cX3_has 2 rX3_has (.code yX3_has cX3_has 2 (some .boolean)) 0 (entL 2 [.ref 21, .int x1]) [] M (RetQ cX3_has (some .boolean) (RQI R M)) := by
  show WP l G tc D lay (fun _ => True) RX3 cX3_has 2 rX3_has (.code yX3_has cX3_has 2 (some .boolean)) 0 [some (.ref 21), some (.int x1)] [] M (RetQ cX3_has (some .boolean) (RQI R M))
  unfold FX3_has at h
  refine WP.iload_n dX3_has_0 rfl rfl ?_
  refine WP.if_lt (tgt := 16) dX3_has_1 (by decide) (fun c1 => ?_) (fun c1 => ?_)
  · rw [if_pos c1] at h
    refine WP.iconst (v := 0) dX3_has_16 (by decide) ?_
    cases h
    exact WP.zret dX3_has_17 (by decide) ⟨rfl, rfl⟩
  · rw [if_neg c1] at h
    refine WP.iload_n dX3_has_4 rfl rfl ?_
    refine WP.aload_n dX3_has_5 rfl rfl ?_
    refine WP.getI (j := 5) dX3_has_6 rfl rfl in_X3 (by decide) wd_143 rfl ?_
    refine WP.icmp_ge (tgt := 16) dX3_has_9 (by decide) (fun c2 => ?_) (fun c2 => ?_)
    · rw [if_pos c2] at h
      refine WP.iconst (v := 0) dX3_has_16 (by decide) ?_
      cases h
      exact WP.zret dX3_has_17 (by decide) ⟨rfl, rfl⟩
    · rw [if_neg c2] at h
      refine WP.iconst (v := 1) dX3_has_12 (by decide) ?_
      refine WP.goto (tgt := 17) dX3_has_13 (by decide) ?_
      cases h
      exact WP.zret dX3_has_17 (by decide) ⟨rfl, rfl⟩
/-! X3_gatherAnswers -/
def rX3_gatherAnswers : Room := { frames := 0, cells := 0, slots := 0, locals := 0 }
def FX3_gatherAnswers (x1 : Int32) (M : Mm) : Option Int32 :=
  (rdI M 22 50 x1).bind fun v1 => (if v1 = 0 then some 0 else (if v1 = 1 ∨ v1 = 10 then (rdI M 23 50 x1).bind fun v5 => some ((1 : Int32) <<< (v5 &&& 31)) else (if v1 = 9 then (rdI M 23 50 x1).bind fun v8 => (rdI M 26 50 v8).bind fun v10 => some v10 else (if v1 = 11 then (rdI M 23 50 x1).bind fun v13 => (rdI M 26 50 v13).bind fun v15 => (rdI M 24 50 x1).bind fun v17 => (rdI M 26 50 v17).bind fun v19 => (rdI M 25 50 x1).bind fun v21 => (rdI M 26 50 v21).bind fun v23 => some ((v15 ||| v19) ||| v23) else (rdI M 23 50 x1).bind fun v25 => (rdI M 26 50 v25).bind fun v27 => (rdI M 24 50 x1).bind fun v29 => (rdI M 26 50 v29).bind fun v31 => some (v27 ||| v31)))))
set_option maxRecDepth 20000 in
theorem TX3_gatherAnswers {l : Launch} {G : va_G} {tc : Nat → ClassId} {D : Nat → Nat} {x1 : Int32} {M : Mm} {R : Int32} (h : FX3_gatherAnswers x1 M = some R) : WP l G tc D lay (fun _ => True) yX3_gatherAnswers.cls cX3_gatherAnswers 2 rX3_gatherAnswers (.code yX3_gatherAnswers cX3_gatherAnswers 2 (some .int)) 0 (entL 2 [.ref 21, .int x1]) [] M (RetQ cX3_gatherAnswers (some .int) (RQI R M)) := by
  show WP l G tc D lay (fun _ => True) RX3 cX3_gatherAnswers 2 rX3_gatherAnswers (.code yX3_gatherAnswers cX3_gatherAnswers 2 (some .int)) 0 [some (.ref 21), some (.int x1)] [] M (RetQ cX3_gatherAnswers (some .int) (RQI R M))
  unfold FX3_gatherAnswers at h
  refine WP.aload_n dX3_gatherAnswers_0 rfl rfl ?_
  refine WP.getR (j := 0) dX3_gatherAnswers_1 rfl rfl in_X3 (by decide) wd_133 rfl ?_
  refine WP.iload_n dX3_gatherAnswers_4 rfl rfl ?_
  obtain ⟨v1, h2, h⟩ := Option.bind_eq_some_iff.mp h
  refine WP.ialdQ dX3_gatherAnswers_5 rfl h2 ?_
  by_cases c3 : v1 = 0
  · rw [if_pos c3] at h
    refine WP.tbl (off := 62) (tgt := 68) dX3_gatherAnswers_6 (by rw [c3]; decide) (by decide) ?_
    refine WP.iconst (v := 0) dX3_gatherAnswers_68 (by decide) ?_
    cases h
    exact WP.iret dX3_gatherAnswers_69 ⟨rfl, rfl⟩
  · rw [if_neg c3] at h
    by_cases c4 : v1 = 1 ∨ v1 = 10
    · rw [if_pos c4] at h
      refine WP.tbl (off := 64) (tgt := 70) dX3_gatherAnswers_6 (by rcases c4 with c4 | c4 <;> (rw [c4]; decide)) (by decide) ?_
      refine WP.iconst (v := 1) dX3_gatherAnswers_70 (by decide) ?_
      refine WP.aload_n dX3_gatherAnswers_71 rfl rfl ?_
      refine WP.getR (j := 1) dX3_gatherAnswers_72 rfl rfl in_X3 (by decide) wd_135 rfl ?_
      refine WP.iload_n dX3_gatherAnswers_75 rfl rfl ?_
      obtain ⟨v5, h6, h⟩ := Option.bind_eq_some_iff.mp h
      refine WP.ialdQ dX3_gatherAnswers_76 rfl h6 ?_
      refine WP.ishl dX3_gatherAnswers_77 ?_
      cases h
      exact WP.iret dX3_gatherAnswers_78 ⟨rfl, rfl⟩
    · rw [if_neg c4] at h
      by_cases c7 : v1 = 9
      · rw [if_pos c7] at h
        refine WP.tbl (off := 73) (tgt := 79) dX3_gatherAnswers_6 (by rw [c7]; decide) (by decide) ?_
        refine WP.aload_n dX3_gatherAnswers_79 rfl rfl ?_
        refine WP.getR (j := 4) dX3_gatherAnswers_80 rfl rfl in_X3 (by decide) wd_141 rfl ?_
        refine WP.aload_n dX3_gatherAnswers_83 rfl rfl ?_
        refine WP.getR (j := 1) dX3_gatherAnswers_84 rfl rfl in_X3 (by decide) wd_135 rfl ?_
        refine WP.iload_n dX3_gatherAnswers_87 rfl rfl ?_
        obtain ⟨v8, h9, h⟩ := Option.bind_eq_some_iff.mp h
        refine WP.ialdQ dX3_gatherAnswers_88 rfl h9 ?_
        obtain ⟨v10, h11, h⟩ := Option.bind_eq_some_iff.mp h
        refine WP.ialdQ dX3_gatherAnswers_89 rfl h11 ?_
        cases h
        exact WP.iret dX3_gatherAnswers_90 ⟨rfl, rfl⟩
      · rw [if_neg c7] at h
        by_cases c12 : v1 = 11
        · rw [if_pos c12] at h
          refine WP.tbl (off := 85) (tgt := 91) dX3_gatherAnswers_6 (by rw [c12]; decide) (by decide) ?_
          refine WP.aload_n dX3_gatherAnswers_91 rfl rfl ?_
          refine WP.getR (j := 4) dX3_gatherAnswers_92 rfl rfl in_X3 (by decide) wd_141 rfl ?_
          refine WP.aload_n dX3_gatherAnswers_95 rfl rfl ?_
          refine WP.getR (j := 1) dX3_gatherAnswers_96 rfl rfl in_X3 (by decide) wd_135 rfl ?_
          refine WP.iload_n dX3_gatherAnswers_99 rfl rfl ?_
          obtain ⟨v13, h14, h⟩ := Option.bind_eq_some_iff.mp h
          refine WP.ialdQ dX3_gatherAnswers_100 rfl h14 ?_
          obtain ⟨v15, h16, h⟩ := Option.bind_eq_some_iff.mp h
          refine WP.ialdQ dX3_gatherAnswers_101 rfl h16 ?_
          refine WP.aload_n dX3_gatherAnswers_102 rfl rfl ?_
          refine WP.getR (j := 4) dX3_gatherAnswers_103 rfl rfl in_X3 (by decide) wd_141 rfl ?_
          refine WP.aload_n dX3_gatherAnswers_106 rfl rfl ?_
          refine WP.getR (j := 2) dX3_gatherAnswers_107 rfl rfl in_X3 (by decide) wd_137 rfl ?_
          refine WP.iload_n dX3_gatherAnswers_110 rfl rfl ?_
          obtain ⟨v17, h18, h⟩ := Option.bind_eq_some_iff.mp h
          refine WP.ialdQ dX3_gatherAnswers_111 rfl h18 ?_
          obtain ⟨v19, h20, h⟩ := Option.bind_eq_some_iff.mp h
          refine WP.ialdQ dX3_gatherAnswers_112 rfl h20 ?_
          refine WP.ior dX3_gatherAnswers_113 ?_
          refine WP.aload_n dX3_gatherAnswers_114 rfl rfl ?_
          refine WP.getR (j := 4) dX3_gatherAnswers_115 rfl rfl in_X3 (by decide) wd_141 rfl ?_
          refine WP.aload_n dX3_gatherAnswers_118 rfl rfl ?_
          refine WP.getR (j := 3) dX3_gatherAnswers_119 rfl rfl in_X3 (by decide) wd_139 rfl ?_
          refine WP.iload_n dX3_gatherAnswers_122 rfl rfl ?_
          obtain ⟨v21, h22, h⟩ := Option.bind_eq_some_iff.mp h
          refine WP.ialdQ dX3_gatherAnswers_123 rfl h22 ?_
          obtain ⟨v23, h24, h⟩ := Option.bind_eq_some_iff.mp h
          refine WP.ialdQ dX3_gatherAnswers_124 rfl h24 ?_
          refine WP.ior dX3_gatherAnswers_125 ?_
          cases h
          exact WP.iret dX3_gatherAnswers_126 ⟨rfl, rfl⟩
        · rw [if_neg c12] at h
          refine WP.tbl (off := 121) (tgt := 127) dX3_gatherAnswers_6 (by
              have n0 := lv_neT (k := 0) (a := 0) (fun z => c3 (z)) (by decide)
              have n1 := lv_neT (k := 1) (a := 1) (fun z => c4 (Or.inl z)) (by decide)
              have n10 := lv_neT (k := 10) (a := 10) (fun z => c4 (Or.inr (z))) (by decide)
              have n9 := lv_neT (k := 9) (a := 9) (fun z => c7 (z)) (by decide)
              have n11 := lv_neT (k := 11) (a := 11) (fun z => c12 (z)) (by decide)
              exact swT_def2  (fun hlo hhi => by
                have hh : v1.toInt = 2 ∨ v1.toInt = 3 ∨ v1.toInt = 4 ∨ v1.toInt = 5 ∨ v1.toInt = 6 ∨ v1.toInt = 7 ∨ v1.toInt = 8 := by omega
                rcases hh with hh | hh | hh | hh | hh | hh | hh <;> (rw [hh]; decide))) (by decide) ?_
          refine WP.aload_n dX3_gatherAnswers_127 rfl rfl ?_
          refine WP.getR (j := 4) dX3_gatherAnswers_128 rfl rfl in_X3 (by decide) wd_141 rfl ?_
          refine WP.aload_n dX3_gatherAnswers_131 rfl rfl ?_
          refine WP.getR (j := 1) dX3_gatherAnswers_132 rfl rfl in_X3 (by decide) wd_135 rfl ?_
          refine WP.iload_n dX3_gatherAnswers_135 rfl rfl ?_
          obtain ⟨v25, h26, h⟩ := Option.bind_eq_some_iff.mp h
          refine WP.ialdQ dX3_gatherAnswers_136 rfl h26 ?_
          obtain ⟨v27, h28, h⟩ := Option.bind_eq_some_iff.mp h
          refine WP.ialdQ dX3_gatherAnswers_137 rfl h28 ?_
          refine WP.aload_n dX3_gatherAnswers_138 rfl rfl ?_
          refine WP.getR (j := 4) dX3_gatherAnswers_139 rfl rfl in_X3 (by decide) wd_141 rfl ?_
          refine WP.aload_n dX3_gatherAnswers_142 rfl rfl ?_
          refine WP.getR (j := 2) dX3_gatherAnswers_143 rfl rfl in_X3 (by decide) wd_137 rfl ?_
          refine WP.iload_n dX3_gatherAnswers_146 rfl rfl ?_
          obtain ⟨v29, h30, h⟩ := Option.bind_eq_some_iff.mp h
          refine WP.ialdQ dX3_gatherAnswers_147 rfl h30 ?_
          obtain ⟨v31, h32, h⟩ := Option.bind_eq_some_iff.mp h
          refine WP.ialdQ dX3_gatherAnswers_148 rfl h32 ?_
          refine WP.ior dX3_gatherAnswers_149 ?_
          cases h
          exact WP.iret dX3_gatherAnswers_150 ⟨rfl, rfl⟩
/-! X3_add -/
def rX3_add : Room := { frames := 1, cells := 0, slots := 0, locals := 21 }
def FX3_add (x1 : Int32) (x2 : Int32) (x3 : Int32) (x4 : Int32) (M : Mm) : Option (Int32 × Mm) :=
  (if (M.1 21 5) < 50 then (wrI M 22 50 (M.1 21 5) x1).bind fun M2 => (wrI M2 23 50 (M2.1 21 5) x2).bind fun M4 => (wrI M4 24 50 (M4.1 21 5) x3).bind fun M6 => (wrI M6 25 50 (M6.1 21 5) x4).bind fun M8 => (FX3_gatherAnswers (M8.1 21 5) M8).bind fun r11 => (wrI M8 26 50 (M8.1 21 5) r11).bind fun M12 => (wrF M12 21 5 ((M12.1 21 5) + 1)).bind fun M14 => some (((M14.1 21 5) - 1), M14) else some ((-4), M))
set_option maxRecDepth 20000 in
theorem TX3_add {l : Launch} {G : va_G} {tc : Nat → ClassId} {D : Nat → Nat} {x1 : Int32} {x2 : Int32} {x3 : Int32} {x4 : Int32} {M : Mm} {R : (Int32 × Mm)} (h : FX3_add x1 x2 x3 x4 M = some R) : WP l G tc D lay (fun _ => True) yX3_add.cls cX3_add 5 rX3_add (.code yX3_add cX3_add 5 (some .int)) 0 (entL 5 [.ref 21, .int x1, .int x2, .int x3, .int x4]) [] M (RetQ cX3_add (some .int) (RQI R.1 R.2)) := by
  show WP l G tc D lay (fun _ => True) RX3 cX3_add 5 rX3_add (.code yX3_add cX3_add 5 (some .int)) 0 [some (.ref 21), some (.int x1), some (.int x2), some (.int x3), some (.int x4)] [] M (RetQ cX3_add (some .int) (RQI R.1 R.2))
  unfold FX3_add at h
  refine WP.aload_n dX3_add_0 rfl rfl ?_
  refine WP.getI (j := 5) dX3_add_1 rfl rfl in_X3 (by decide) wd_143 rfl ?_
  refine WP.bipush (v := 50) dX3_add_4 (by decide) ?_
  refine WP.icmp_lt (tgt := 12) dX3_add_6 (by decide) (fun c1 => ?_) (fun c1 => ?_)
  · rw [if_pos c1] at h
    refine WP.aload_n dX3_add_12 rfl rfl ?_
    refine WP.getR (j := 0) dX3_add_13 rfl rfl in_X3 (by decide) wd_133 rfl ?_
    refine WP.aload_n dX3_add_16 rfl rfl ?_
    refine WP.getI (j := 5) dX3_add_17 rfl rfl in_X3 (by decide) wd_143 rfl ?_
    refine WP.iload_n dX3_add_20 rfl rfl ?_
    obtain ⟨M2, h3, h⟩ := Option.bind_eq_some_iff.mp h
    refine WP.iastQ dX3_add_21 rfl h3 ?_
    refine WP.aload_n dX3_add_22 rfl rfl ?_
    refine WP.getR (j := 1) dX3_add_23 rfl rfl in_X3 (by decide) wd_135 rfl ?_
    refine WP.aload_n dX3_add_26 rfl rfl ?_
    refine WP.getI (j := 5) dX3_add_27 rfl rfl in_X3 (by decide) wd_143 rfl ?_
    refine WP.iload_n dX3_add_30 rfl rfl ?_
    obtain ⟨M4, h5, h⟩ := Option.bind_eq_some_iff.mp h
    refine WP.iastQ dX3_add_31 rfl h5 ?_
    refine WP.aload_n dX3_add_32 rfl rfl ?_
    refine WP.getR (j := 2) dX3_add_33 rfl rfl in_X3 (by decide) wd_137 rfl ?_
    refine WP.aload_n dX3_add_36 rfl rfl ?_
    refine WP.getI (j := 5) dX3_add_37 rfl rfl in_X3 (by decide) wd_143 rfl ?_
    refine WP.iload_n dX3_add_40 rfl rfl ?_
    obtain ⟨M6, h7, h⟩ := Option.bind_eq_some_iff.mp h
    refine WP.iastQ dX3_add_41 rfl h7 ?_
    refine WP.aload_n dX3_add_42 rfl rfl ?_
    refine WP.getR (j := 3) dX3_add_43 rfl rfl in_X3 (by decide) wd_139 rfl ?_
    refine WP.aload_n dX3_add_46 rfl rfl ?_
    refine WP.getI (j := 5) dX3_add_47 rfl rfl in_X3 (by decide) wd_143 rfl ?_
    refine WP.iload dX3_add_50 rfl ?_
    obtain ⟨M8, h9, h⟩ := Option.bind_eq_some_iff.mp h
    refine WP.iastQ dX3_add_52 rfl h9 ?_
    refine WP.aload_n dX3_add_53 rfl rfl ?_
    refine WP.getR (j := 4) dX3_add_54 rfl rfl in_X3 (by decide) wd_141 rfl ?_
    refine WP.aload_n dX3_add_57 rfl rfl ?_
    refine WP.getI (j := 5) dX3_add_58 rfl rfl in_X3 (by decide) wd_143 rfl ?_
    refine WP.aload_n dX3_add_61 rfl rfl ?_
    refine WP.aload_n dX3_add_62 rfl rfl ?_
    refine WP.getI (j := 5) dX3_add_63 rfl rfl in_X3 (by decide) wd_143 rfl ?_
    obtain ⟨r11, h10, h⟩ := Option.bind_eq_some_iff.mp h
    refine WP.callVI [.int (M8.1 21 5)] dX3_add_66 lk_X3_31 rfl rfl rfl (Nat.le_of_ble_eq_true rfl) (by decide) (Nat.le_of_ble_eq_true rfl) rfl (TX3_gatherAnswers h10) ?_
    obtain ⟨M12, h13, h⟩ := Option.bind_eq_some_iff.mp h
    refine WP.iastQ dX3_add_69 rfl h13 ?_
    refine WP.aload_n dX3_add_70 rfl rfl ?_
    refine WP.dup dX3_add_71 rfl ?_
    refine WP.getI (j := 5) dX3_add_72 rfl rfl in_X3 (by decide) wd_143 rfl ?_
    refine WP.iconst (v := 1) dX3_add_75 (by decide) ?_
    refine WP.iadd dX3_add_76 ?_
    obtain ⟨M14, h15, h⟩ := Option.bind_eq_some_iff.mp h
    refine WP.putF (j := 5) (ty := .int) dX3_add_77 rfl rfl in_X3 tyX3_ok nmX3 (by decide) wd_143 rfl (by decide +kernel) rfl rfl rfl h15 ?_
    refine WP.aload_n dX3_add_80 rfl rfl ?_
    refine WP.getI (j := 5) dX3_add_81 rfl rfl in_X3 (by decide) wd_143 rfl ?_
    refine WP.iconst (v := 1) dX3_add_84 (by decide) ?_
    refine WP.isub dX3_add_85 ?_
    cases h
    exact WP.iret dX3_add_86 ⟨rfl, rfl⟩
  · rw [if_neg c1] at h
    refine WP.bipush (v := (-4)) dX3_add_9 (by decide) ?_
    cases h
    exact WP.iret dX3_add_11 ⟨rfl, rfl⟩
/-! X4_follow -/
def rX4_follow : Room := { frames := 2, cells := 0, slots := 0, locals := 44 }
def BX4_follow_11 (N : Nat) (K11 : Int32 × Int32 × Int32 × Mm → Option Mm) (q : Int32 × Int32 × Int32 × Mm) : Option Mm :=
  (if 12 ≤ (q.2.2.2.1 30 1) then some q.2.2.2 else (if q.2.1 = (-9) then some q.2.2.2 else (wrI q.2.2.2 31 12 (q.2.2.2.1 30 1) q.2.1).bind fun M3 => (wrF M3 30 1 ((M3.1 30 1) + 1)).bind fun M5 => (FX9_hasBit q.2.2.1 q.1 M5).bind fun r8 => (if r8 = 0 then (FX0_leastHanging N q.2.2.1 q.1 M5).bind fun r11 => (if r11 = (-9) then K11 (q.1, r11, 0, M5) else (rdI M5 19 12 r11).bind fun v13 => K11 (q.1, r11, v13, M5)) else some M5)))
def FX4_follow (N : Nat) (x2 : Int32) (x3 : Int32) (M : Mm) : Option Mm :=
  (wrF M 30 1 0).bind fun M1 => lp (BX4_follow_11 N) N (x2, x2, x3, M1)
set_option maxRecDepth 20000 in
theorem tX4_follow_11 {l : Launch} {G : va_G} {tc : Nat → ClassId} {D : Nat → Nat} {N : Nat} : ∀ (nn : Nat) (q : Int32 × Int32 × Int32 × Mm) (R : Mm), lp (BX4_follow_11 N) nn q = some R → WP l G tc D lay (fun _ => True) RX4 cX4_follow 6 rX4_follow (.code yX4_follow cX4_follow 6 none) 11 [some (.ref 30), some (.ref 2), some (.int q.1), none, some (.int q.2.1), some (.int q.2.2.1)] [] q.2.2.2 (RetQ cX4_follow none (RQV R)) := by
  refine lp_ind (fun K11 hK11 q R h => ?_)
  unfold BX4_follow_11 at h
  refine WP.aload_n dX4_follow_11 rfl rfl ?_
  refine WP.getI (j := 1) dX4_follow_12 rfl rfl in_X4 (by decide) wd_194 rfl ?_
  refine WP.bipush (v := 12) dX4_follow_15 (by decide) ?_
  refine WP.icmp_ge (tgt := 90) dX4_follow_17 (by decide) (fun c1 => ?_) (fun c1 => ?_)
  · rw [if_pos c1] at h
    cases h
    exact WP.vret dX4_follow_90 ⟨rfl, rfl⟩
  · rw [if_neg c1] at h
    refine WP.iload dX4_follow_20 rfl ?_
    refine WP.bipush (v := (-9)) dX4_follow_22 (by decide) ?_
    refine WP.icmp_eq (tgt := 90) dX4_follow_24 (by decide) (fun c2 => ?_) (fun c2 => ?_)
    · rw [if_pos c2] at h
      cases h
      exact WP.vret dX4_follow_90 ⟨rfl, rfl⟩
    · rw [if_neg c2] at h
      refine WP.aload_n dX4_follow_27 rfl rfl ?_
      refine WP.getR (j := 0) dX4_follow_28 rfl rfl in_X4 (by decide) wd_192 rfl ?_
      refine WP.aload_n dX4_follow_31 rfl rfl ?_
      refine WP.getI (j := 1) dX4_follow_32 rfl rfl in_X4 (by decide) wd_194 rfl ?_
      refine WP.iload dX4_follow_35 rfl ?_
      obtain ⟨M3, h4, h⟩ := Option.bind_eq_some_iff.mp h
      refine WP.iastQ dX4_follow_37 rfl h4 ?_
      refine WP.aload_n dX4_follow_38 rfl rfl ?_
      refine WP.dup dX4_follow_39 rfl ?_
      refine WP.getI (j := 1) dX4_follow_40 rfl rfl in_X4 (by decide) wd_194 rfl ?_
      refine WP.iconst (v := 1) dX4_follow_43 (by decide) ?_
      refine WP.iadd dX4_follow_44 ?_
      obtain ⟨M5, h6, h⟩ := Option.bind_eq_some_iff.mp h
      refine WP.putF (j := 1) (ty := .int) dX4_follow_45 rfl rfl in_X4 tyX4_ok nmX4 (by decide) wd_194 rfl (by decide +kernel) rfl rfl rfl h6 ?_
      refine WP.iload dX4_follow_48 rfl ?_
      refine WP.iload_n dX4_follow_50 rfl rfl ?_
      obtain ⟨r8, h7, h⟩ := Option.bind_eq_some_iff.mp h
      refine WP.callNI [.int q.2.2.1, .int q.1] dX4_follow_51 lk_X4_19 rfl (Nat.le_of_ble_eq_true rfl) (by decide) (Nat.le_of_ble_eq_true rfl) rfl (TX9_hasBit h7) ?_
      refine WP.if_eq (tgt := 58) dX4_follow_54 (by decide) (fun c9 => ?_) (fun c9 => ?_)
      · rw [if_pos c9] at h
        refine WP.aload_n dX4_follow_58 rfl rfl ?_
        refine WP.iload dX4_follow_59 rfl ?_
        refine WP.iload_n dX4_follow_61 rfl rfl ?_
        obtain ⟨r11, h10, h⟩ := Option.bind_eq_some_iff.mp h
        refine WP.callVI [.int q.2.2.1, .int q.1] dX4_follow_62 lk_X4_23 rfl rfl rfl (Nat.le_of_ble_eq_true rfl) (by decide) (Nat.le_of_ble_eq_true rfl) rfl (TX0_leastHanging h10) ?_
        refine WP.istore dX4_follow_65 (by decide) rfl rfl ?_
        refine WP.iload dX4_follow_67 rfl ?_
        refine WP.bipush (v := (-9)) dX4_follow_69 (by decide) ?_
        refine WP.icmp_ne (tgt := 78) dX4_follow_71 (by decide) (fun c12 => ?_) (fun c12 => ?_)
        · rw [if_neg c12] at h
          refine WP.aload_n dX4_follow_78 rfl rfl ?_
          refine WP.getR (j := 4) dX4_follow_79 rfl rfl in_X0 (by decide) wd_99 rfl ?_
          refine WP.iload dX4_follow_82 rfl ?_
          obtain ⟨v13, h14, h⟩ := Option.bind_eq_some_iff.mp h
          refine WP.ialdQ dX4_follow_84 rfl h14 ?_
          refine WP.istore dX4_follow_85 (by decide) rfl rfl ?_
          refine WP.goto (tgt := 11) dX4_follow_87 (by decide) ?_
          refine WP.fgt [true, true, true, false, true, true] rfl ?_
          exact hK11 (q.1, r11, v13, M5) _ h
        · rw [if_pos c12] at h
          refine WP.iconst (v := 0) dX4_follow_74 (by decide) ?_
          refine WP.goto (tgt := 85) dX4_follow_75 (by decide) ?_
          refine WP.istore dX4_follow_85 (by decide) rfl rfl ?_
          refine WP.goto (tgt := 11) dX4_follow_87 (by decide) ?_
          refine WP.fgt [true, true, true, false, true, true] rfl ?_
          exact hK11 (q.1, r11, 0, M5) _ h
      · rw [if_neg c9] at h
        cases h
        exact WP.vret dX4_follow_57 ⟨rfl, rfl⟩
set_option maxRecDepth 20000 in
theorem TX4_follow {l : Launch} {G : va_G} {tc : Nat → ClassId} {D : Nat → Nat} {N : Nat} {x2 : Int32} {x3 : Int32} {M : Mm} {R : Mm} (h : FX4_follow N x2 x3 M = some R) : WP l G tc D lay (fun _ => True) yX4_follow.cls cX4_follow 6 rX4_follow (.code yX4_follow cX4_follow 6 none) 0 (entL 6 [.ref 30, .ref 2, .int x2, .int x3]) [] M (RetQ cX4_follow none (RQV R)) := by
  show WP l G tc D lay (fun _ => True) RX4 cX4_follow 6 rX4_follow (.code yX4_follow cX4_follow 6 none) 0 [some (.ref 30), some (.ref 2), some (.int x2), some (.int x3), none, none] [] M (RetQ cX4_follow none (RQV R))
  unfold FX4_follow at h
  refine WP.iload_n dX4_follow_0 rfl rfl ?_
  refine WP.istore dX4_follow_1 (by decide) rfl rfl ?_
  refine WP.iload_n dX4_follow_3 rfl rfl ?_
  refine WP.istore dX4_follow_4 (by decide) rfl rfl ?_
  refine WP.aload_n dX4_follow_6 rfl rfl ?_
  refine WP.iconst (v := 0) dX4_follow_7 (by decide) ?_
  obtain ⟨M1, h2, h⟩ := Option.bind_eq_some_iff.mp h
  refine WP.putF (j := 1) (ty := .int) dX4_follow_8 rfl rfl in_X4 tyX4_ok nmX4 (by decide) wd_194 rfl (by decide +kernel) rfl rfl rfl h2 ?_
  refine WP.fgt [true, true, true, false, true, true] rfl ?_
  exact tX4_follow_11  N (x2, x2, x3, M1) _ h
/-! X7_leave -/
def rX7_leave : Room := { frames := 0, cells := 0, slots := 0, locals := 0 }
def FX7_leave (x1 : Int32) (M : Mm) : Option Mm :=
  (wrF M 68 0 (((31 : Int32) * (M.1 68 0)) + x1)).bind fun M1 => some M1
set_option maxRecDepth 20000 in
theorem TX7_leave {l : Launch} {G : va_G} {tc : Nat → ClassId} {D : Nat → Nat} {x1 : Int32} {M : Mm} {R : Mm} (h : FX7_leave x1 M = some R) : WP l G tc D lay (fun _ => True) yX7_leave.cls cX7_leave 2 rX7_leave (.code yX7_leave cX7_leave 2 none) 0 (entL 2 [.ref 68, .int x1]) [] M (RetQ cX7_leave none (RQV R)) := by
  show WP l G tc D lay (fun _ => True) RX7 cX7_leave 2 rX7_leave (.code yX7_leave cX7_leave 2 none) 0 [some (.ref 68), some (.int x1)] [] M (RetQ cX7_leave none (RQV R))
  unfold FX7_leave at h
  refine WP.aload_n dX7_leave_0 rfl rfl ?_
  refine WP.bipush (v := 31) dX7_leave_1 (by decide) ?_
  refine WP.aload_n dX7_leave_3 rfl rfl ?_
  refine WP.getI (j := 0) dX7_leave_4 rfl rfl in_X7 (by decide) wd_306 rfl ?_
  refine WP.imul dX7_leave_7 ?_
  refine WP.iload_n dX7_leave_8 rfl rfl ?_
  refine WP.iadd dX7_leave_9 ?_
  obtain ⟨M1, h2, h⟩ := Option.bind_eq_some_iff.mp h
  refine WP.putF (j := 0) (ty := .int) dX7_leave_10 rfl rfl in_X7 tyX7_ok nmX7 (by decide) wd_306 rfl (by decide +kernel) rfl rfl rfl h2 ?_
  cases h
  exact WP.vret dX7_leave_13 ⟨rfl, rfl⟩
/-! X7_tellAsked -/
def rX7_tellAsked : Room := { frames := 1, cells := 0, slots := 0, locals := 21 }
def FX7_tellAsked (x2 : Int32) (M : Mm) : Option (Int32 × Mm) :=
  (FX7_leave 1 M).bind fun M2 => (rdI M2 4 12 x2).bind fun v3 => (rdI M2 3 12 x2).bind fun v5 => some ((v3 - v5), M2)
set_option maxRecDepth 20000 in
theorem TX7_tellAsked {l : Launch} {G : va_G} {tc : Nat → ClassId} {D : Nat → Nat} {x2 : Int32} {M : Mm} {R : (Int32 × Mm)} (h : FX7_tellAsked x2 M = some R) : WP l G tc D lay (fun _ => True) yX7_tellAsked.cls cX7_tellAsked 3 rX7_tellAsked (.code yX7_tellAsked cX7_tellAsked 3 (some .int)) 0 (entL 3 [.ref 68, .ref 2, .int x2]) [] M (RetQ cX7_tellAsked (some .int) (RQI R.1 R.2)) := by
  show WP l G tc D lay (fun _ => True) RX7 cX7_tellAsked 3 rX7_tellAsked (.code yX7_tellAsked cX7_tellAsked 3 (some .int)) 0 [some (.ref 68), some (.ref 2), some (.int x2)] [] M (RetQ cX7_tellAsked (some .int) (RQI R.1 R.2))
  unfold FX7_tellAsked at h
  refine WP.aload_n dX7_tellAsked_0 rfl rfl ?_
  refine WP.iconst (v := 1) dX7_tellAsked_1 (by decide) ?_
  obtain ⟨M2, h1, h⟩ := Option.bind_eq_some_iff.mp h
  refine WP.callVV [.int 1] dX7_tellAsked_2 lk_X7_46 rfl rfl rfl (Nat.le_of_ble_eq_true rfl) (by decide) (Nat.le_of_ble_eq_true rfl) rfl (TX7_leave h1) ?_
  refine WP.aload_n dX7_tellAsked_5 rfl rfl ?_
  refine WP.getR (j := 1) dX7_tellAsked_6 rfl rfl in_X0 (by decide) wd_87 rfl ?_
  refine WP.iload_n dX7_tellAsked_9 rfl rfl ?_
  obtain ⟨v3, h4, h⟩ := Option.bind_eq_some_iff.mp h
  refine WP.ialdQ dX7_tellAsked_10 rfl h4 ?_
  refine WP.aload_n dX7_tellAsked_11 rfl rfl ?_
  refine WP.getR (j := 0) dX7_tellAsked_12 rfl rfl in_X0 (by decide) wd_83 rfl ?_
  refine WP.iload_n dX7_tellAsked_15 rfl rfl ?_
  obtain ⟨v5, h6, h⟩ := Option.bind_eq_some_iff.mp h
  refine WP.ialdQ dX7_tellAsked_16 rfl h6 ?_
  refine WP.isub dX7_tellAsked_17 ?_
  cases h
  exact WP.iret dX7_tellAsked_18 ⟨rfl, rfl⟩
/-! X7_tellMade -/
def rX7_tellMade : Room := { frames := 2, cells := 0, slots := 0, locals := 43 }
def FX7_tellMade (x2 : Int32) (M : Mm) : Option (Int32 × Mm) :=
  (FX7_leave 2 M).bind fun M2 => (FX7_tellAsked x2 M2).bind fun p4 => some ((p4.1 + 1000), p4.2)
set_option maxRecDepth 20000 in
theorem TX7_tellMade {l : Launch} {G : va_G} {tc : Nat → ClassId} {D : Nat → Nat} {x2 : Int32} {M : Mm} {R : (Int32 × Mm)} (h : FX7_tellMade x2 M = some R) : WP l G tc D lay (fun _ => True) yX7_tellMade.cls cX7_tellMade 3 rX7_tellMade (.code yX7_tellMade cX7_tellMade 3 (some .int)) 0 (entL 3 [.ref 68, .ref 2, .int x2]) [] M (RetQ cX7_tellMade (some .int) (RQI R.1 R.2)) := by
  show WP l G tc D lay (fun _ => True) RX7 cX7_tellMade 3 rX7_tellMade (.code yX7_tellMade cX7_tellMade 3 (some .int)) 0 [some (.ref 68), some (.ref 2), some (.int x2)] [] M (RetQ cX7_tellMade (some .int) (RQI R.1 R.2))
  unfold FX7_tellMade at h
  refine WP.aload_n dX7_tellMade_0 rfl rfl ?_
  refine WP.iconst (v := 2) dX7_tellMade_1 (by decide) ?_
  obtain ⟨M2, h1, h⟩ := Option.bind_eq_some_iff.mp h
  refine WP.callVV [.int 2] dX7_tellMade_2 lk_X7_46 rfl rfl rfl (Nat.le_of_ble_eq_true rfl) (by decide) (Nat.le_of_ble_eq_true rfl) rfl (TX7_leave h1) ?_
  refine WP.aload_n dX7_tellMade_5 rfl rfl ?_
  refine WP.aload_n dX7_tellMade_6 rfl rfl ?_
  refine WP.iload_n dX7_tellMade_7 rfl rfl ?_
  obtain ⟨p4, h3, h⟩ := Option.bind_eq_some_iff.mp h
  refine WP.callVI [.ref 2, .int x2] dX7_tellMade_8 lk_X7_43 rfl rfl rfl (Nat.le_of_ble_eq_true rfl) (by decide) (Nat.le_of_ble_eq_true rfl) rfl (TX7_tellAsked h3) ?_
  refine WP.sipush (v := 1000) dX7_tellMade_11 (by decide) ?_
  refine WP.iadd dX7_tellMade_14 ?_
  cases h
  exact WP.iret dX7_tellMade_15 ⟨rfl, rfl⟩
/-! X7_tellPlain -/
def rX7_tellPlain : Room := { frames := 3, cells := 0, slots := 0, locals := 65 }
def FX7_tellPlain (x2 : Int32) (M : Mm) : Option (Int32 × Mm) :=
  (rdI M 5 12 x2).bind fun v1 => (if v1 = 0 then (FX7_tellAsked x2 M).bind fun p5 => some (p5.1, p5.2) else (FX7_tellMade x2 M).bind fun p7 => some (p7.1, p7.2))
set_option maxRecDepth 20000 in
theorem TX7_tellPlain {l : Launch} {G : va_G} {tc : Nat → ClassId} {D : Nat → Nat} {x2 : Int32} {M : Mm} {R : (Int32 × Mm)} (h : FX7_tellPlain x2 M = some R) : WP l G tc D lay (fun _ => True) yX7_tellPlain.cls cX7_tellPlain 3 rX7_tellPlain (.code yX7_tellPlain cX7_tellPlain 3 (some .int)) 0 (entL 3 [.ref 68, .ref 2, .int x2]) [] M (RetQ cX7_tellPlain (some .int) (RQI R.1 R.2)) := by
  show WP l G tc D lay (fun _ => True) RX7 cX7_tellPlain 3 rX7_tellPlain (.code yX7_tellPlain cX7_tellPlain 3 (some .int)) 0 [some (.ref 68), some (.ref 2), some (.int x2)] [] M (RetQ cX7_tellPlain (some .int) (RQI R.1 R.2))
  unfold FX7_tellPlain at h
  refine WP.aload_n dX7_tellPlain_0 rfl rfl ?_
  refine WP.getR (j := 2) dX7_tellPlain_1 rfl rfl in_X0 (by decide) wd_90 rfl ?_
  refine WP.iload_n dX7_tellPlain_4 rfl rfl ?_
  obtain ⟨v1, h2, h⟩ := Option.bind_eq_some_iff.mp h
  refine WP.zaldQ dX7_tellPlain_5 rfl h2 ?_
  refine WP.if_eq (tgt := 18) dX7_tellPlain_6 (by decide) (fun c3 => ?_) (fun c3 => ?_)
  · rw [if_pos c3] at h
    refine WP.aload_n dX7_tellPlain_18 rfl rfl ?_
    refine WP.aload_n dX7_tellPlain_19 rfl rfl ?_
    refine WP.iload_n dX7_tellPlain_20 rfl rfl ?_
    obtain ⟨p5, h4, h⟩ := Option.bind_eq_some_iff.mp h
    refine WP.callVI [.ref 2, .int x2] dX7_tellPlain_21 lk_X7_43 rfl rfl rfl (Nat.le_of_ble_eq_true rfl) (by decide) (Nat.le_of_ble_eq_true rfl) rfl (TX7_tellAsked h4) ?_
    cases h
    exact WP.iret dX7_tellPlain_24 ⟨rfl, rfl⟩
  · rw [if_neg c3] at h
    refine WP.aload_n dX7_tellPlain_9 rfl rfl ?_
    refine WP.aload_n dX7_tellPlain_10 rfl rfl ?_
    refine WP.iload_n dX7_tellPlain_11 rfl rfl ?_
    obtain ⟨p7, h6, h⟩ := Option.bind_eq_some_iff.mp h
    refine WP.callVI [.ref 2, .int x2] dX7_tellPlain_12 lk_X7_40 rfl rfl rfl (Nat.le_of_ble_eq_true rfl) (by decide) (Nat.le_of_ble_eq_true rfl) rfl (TX7_tellMade h6) ?_
    refine WP.goto (tgt := 24) dX7_tellPlain_15 (by decide) ?_
    cases h
    exact WP.iret dX7_tellPlain_24 ⟨rfl, rfl⟩
/-! X7_tellNeeded -/
def rX7_tellNeeded : Room := { frames := 4, cells := 0, slots := 0, locals := 87 }
def FX7_tellNeeded (x2 : Int32) (M : Mm) : Option (Int32 × Mm) :=
  (FX7_leave 3 M).bind fun M2 => (FX7_tellPlain x2 M2).bind fun p4 => some (((2 : Int32) * p4.1), p4.2)
set_option maxRecDepth 20000 in
theorem TX7_tellNeeded {l : Launch} {G : va_G} {tc : Nat → ClassId} {D : Nat → Nat} {x2 : Int32} {M : Mm} {R : (Int32 × Mm)} (h : FX7_tellNeeded x2 M = some R) : WP l G tc D lay (fun _ => True) yX7_tellNeeded.cls cX7_tellNeeded 3 rX7_tellNeeded (.code yX7_tellNeeded cX7_tellNeeded 3 (some .int)) 0 (entL 3 [.ref 68, .ref 2, .int x2]) [] M (RetQ cX7_tellNeeded (some .int) (RQI R.1 R.2)) := by
  show WP l G tc D lay (fun _ => True) RX7 cX7_tellNeeded 3 rX7_tellNeeded (.code yX7_tellNeeded cX7_tellNeeded 3 (some .int)) 0 [some (.ref 68), some (.ref 2), some (.int x2)] [] M (RetQ cX7_tellNeeded (some .int) (RQI R.1 R.2))
  unfold FX7_tellNeeded at h
  refine WP.aload_n dX7_tellNeeded_0 rfl rfl ?_
  refine WP.iconst (v := 3) dX7_tellNeeded_1 (by decide) ?_
  obtain ⟨M2, h1, h⟩ := Option.bind_eq_some_iff.mp h
  refine WP.callVV [.int 3] dX7_tellNeeded_2 lk_X7_46 rfl rfl rfl (Nat.le_of_ble_eq_true rfl) (by decide) (Nat.le_of_ble_eq_true rfl) rfl (TX7_leave h1) ?_
  refine WP.iconst (v := 2) dX7_tellNeeded_5 (by decide) ?_
  refine WP.aload_n dX7_tellNeeded_6 rfl rfl ?_
  refine WP.aload_n dX7_tellNeeded_7 rfl rfl ?_
  refine WP.iload_n dX7_tellNeeded_8 rfl rfl ?_
  obtain ⟨p4, h3, h⟩ := Option.bind_eq_some_iff.mp h
  refine WP.callVI [.ref 2, .int x2] dX7_tellNeeded_9 lk_X7_15 rfl rfl rfl (Nat.le_of_ble_eq_true rfl) (by decide) (Nat.le_of_ble_eq_true rfl) rfl (TX7_tellPlain h3) ?_
  refine WP.imul dX7_tellNeeded_12 ?_
  cases h
  exact WP.iret dX7_tellNeeded_13 ⟨rfl, rfl⟩
/-! X7_tellOne -/
def rX7_tellOne : Room := { frames := 5, cells := 0, slots := 0, locals := 109 }
def FX7_tellOne (x2 : Int32) (M : Mm) : Option (Int32 × Mm) :=
  (ckR 7 12 x2).bind fun k1 => (rdI M k1 4 1).bind fun v3 => (if v3 = (-9) then (FX7_tellPlain x2 M).bind fun p9 => some (p9.1, p9.2) else (FX7_tellNeeded x2 M).bind fun p7 => some (p7.1, p7.2))
set_option maxRecDepth 20000 in
theorem TX7_tellOne {l : Launch} {G : va_G} {tc : Nat → ClassId} {D : Nat → Nat} {x2 : Int32} {M : Mm} {R : (Int32 × Mm)} (h : FX7_tellOne x2 M = some R) : WP l G tc D lay (fun _ => True) yX7_tellOne.cls cX7_tellOne 3 rX7_tellOne (.code yX7_tellOne cX7_tellOne 3 (some .int)) 0 (entL 3 [.ref 68, .ref 2, .int x2]) [] M (RetQ cX7_tellOne (some .int) (RQI R.1 R.2)) := by
  show WP l G tc D lay (fun _ => True) RX7 cX7_tellOne 3 rX7_tellOne (.code yX7_tellOne cX7_tellOne 3 (some .int)) 0 [some (.ref 68), some (.ref 2), some (.int x2)] [] M (RetQ cX7_tellOne (some .int) (RQI R.1 R.2))
  unfold FX7_tellOne at h
  refine WP.aload_n dX7_tellOne_0 rfl rfl ?_
  refine WP.getR (j := 3) dX7_tellOne_1 rfl rfl in_X0 (by decide) wd_94 rfl ?_
  refine WP.iload_n dX7_tellOne_4 rfl rfl ?_
  obtain ⟨k1, h2, h⟩ := Option.bind_eq_some_iff.mp h
  refine WP.aaldQ (base := 7) (n := 12) dX7_tellOne_5 rfl rfl h2 ?_
  have hk1 := rows_6 h2
  refine WP.iconst (v := 1) dX7_tellOne_6 (by decide) ?_
  obtain ⟨v3, h4, h⟩ := Option.bind_eq_some_iff.mp h
  refine WP.ialdQ dX7_tellOne_7 hk1 h4 ?_
  refine WP.bipush (v := (-9)) dX7_tellOne_8 (by decide) ?_
  refine WP.icmp_ne (tgt := 22) dX7_tellOne_10 (by decide) (fun c5 => ?_) (fun c5 => ?_)
  · rw [if_neg c5] at h
    refine WP.aload_n dX7_tellOne_22 rfl rfl ?_
    refine WP.aload_n dX7_tellOne_23 rfl rfl ?_
    refine WP.iload_n dX7_tellOne_24 rfl rfl ?_
    obtain ⟨p7, h6, h⟩ := Option.bind_eq_some_iff.mp h
    refine WP.callVI [.ref 2, .int x2] dX7_tellOne_25 lk_X7_21 rfl rfl rfl (Nat.le_of_ble_eq_true rfl) (by decide) (Nat.le_of_ble_eq_true rfl) rfl (TX7_tellNeeded h6) ?_
    cases h
    exact WP.iret dX7_tellOne_28 ⟨rfl, rfl⟩
  · rw [if_pos c5] at h
    refine WP.aload_n dX7_tellOne_13 rfl rfl ?_
    refine WP.aload_n dX7_tellOne_14 rfl rfl ?_
    refine WP.iload_n dX7_tellOne_15 rfl rfl ?_
    obtain ⟨p9, h8, h⟩ := Option.bind_eq_some_iff.mp h
    refine WP.callVI [.ref 2, .int x2] dX7_tellOne_16 lk_X7_15 rfl rfl rfl (Nat.le_of_ble_eq_true rfl) (by decide) (Nat.le_of_ble_eq_true rfl) rfl (TX7_tellPlain h8) ?_
    refine WP.goto (tgt := 28) dX7_tellOne_19 (by decide) ?_
    cases h
    exact WP.iret dX7_tellOne_28 ⟨rfl, rfl⟩
/-! X7_addressMade -/
def rX7_addressMade : Room := { frames := 1, cells := 0, slots := 0, locals := 21 }
def FX7_addressMade (M : Mm) : Option (Int32 × Mm) :=
  (FX7_leave 5 M).bind fun M2 => some (5, M2)
set_option maxRecDepth 20000 in
theorem TX7_addressMade {l : Launch} {G : va_G} {tc : Nat → ClassId} {D : Nat → Nat} {M : Mm} {R : (Int32 × Mm)} (h : FX7_addressMade M = some R) : WP l G tc D lay (fun _ => True) yX7_addressMade.cls cX7_addressMade 1 rX7_addressMade (.code yX7_addressMade cX7_addressMade 1 (some .int)) 0 (entL 1 [.ref 68]) [] M (RetQ cX7_addressMade (some .int) (RQI R.1 R.2)) := by
  show WP l G tc D lay (fun _ => True) RX7 cX7_addressMade 1 rX7_addressMade (.code yX7_addressMade cX7_addressMade 1 (some .int)) 0 [some (.ref 68)] [] M (RetQ cX7_addressMade (some .int) (RQI R.1 R.2))
  unfold FX7_addressMade at h
  refine WP.aload_n dX7_addressMade_0 rfl rfl ?_
  refine WP.iconst (v := 5) dX7_addressMade_1 (by decide) ?_
  obtain ⟨M2, h1, h⟩ := Option.bind_eq_some_iff.mp h
  refine WP.callVV [.int 5] dX7_addressMade_2 lk_X7_46 rfl rfl rfl (Nat.le_of_ble_eq_true rfl) (by decide) (Nat.le_of_ble_eq_true rfl) rfl (TX7_leave h1) ?_
  refine WP.iconst (v := 5) dX7_addressMade_5 (by decide) ?_
  cases h
  exact WP.iret dX7_addressMade_6 ⟨rfl, rfl⟩
/-! X7_addressLent -/
def rX7_addressLent : Room := { frames := 1, cells := 0, slots := 0, locals := 21 }
def FX7_addressLent (x1 : Int32) (M : Mm) : Option (Int32 × Mm) :=
  (FX7_leave 4 M).bind fun M2 => some (((10 : Int32) * x1), M2)
set_option maxRecDepth 20000 in
theorem TX7_addressLent {l : Launch} {G : va_G} {tc : Nat → ClassId} {D : Nat → Nat} {x1 : Int32} {M : Mm} {R : (Int32 × Mm)} (h : FX7_addressLent x1 M = some R) : WP l G tc D lay (fun _ => True) yX7_addressLent.cls cX7_addressLent 2 rX7_addressLent (.code yX7_addressLent cX7_addressLent 2 (some .int)) 0 (entL 2 [.ref 68, .int x1]) [] M (RetQ cX7_addressLent (some .int) (RQI R.1 R.2)) := by
  show WP l G tc D lay (fun _ => True) RX7 cX7_addressLent 2 rX7_addressLent (.code yX7_addressLent cX7_addressLent 2 (some .int)) 0 [some (.ref 68), some (.int x1)] [] M (RetQ cX7_addressLent (some .int) (RQI R.1 R.2))
  unfold FX7_addressLent at h
  refine WP.aload_n dX7_addressLent_0 rfl rfl ?_
  refine WP.iconst (v := 4) dX7_addressLent_1 (by decide) ?_
  obtain ⟨M2, h1, h⟩ := Option.bind_eq_some_iff.mp h
  refine WP.callVV [.int 4] dX7_addressLent_2 lk_X7_46 rfl rfl rfl (Nat.le_of_ble_eq_true rfl) (by decide) (Nat.le_of_ble_eq_true rfl) rfl (TX7_leave h1) ?_
  refine WP.bipush (v := 10) dX7_addressLent_5 (by decide) ?_
  refine WP.iload_n dX7_addressLent_7 rfl rfl ?_
  refine WP.imul dX7_addressLent_8 ?_
  cases h
  exact WP.iret dX7_addressLent_9 ⟨rfl, rfl⟩
/-! X7_addressOne -/
def rX7_addressOne : Room := { frames := 2, cells := 0, slots := 0, locals := 42 }
def FX7_addressOne (x2 : Int32) (M : Mm) : Option (Int32 × Mm) :=
  (rdI M 5 12 x2).bind fun v1 => (if v1 = 0 then (FX7_addressLent x2 M).bind fun p5 => some (p5.1, p5.2) else (FX7_addressMade M).bind fun p7 => some (p7.1, p7.2))
set_option maxRecDepth 20000 in
theorem TX7_addressOne {l : Launch} {G : va_G} {tc : Nat → ClassId} {D : Nat → Nat} {x2 : Int32} {M : Mm} {R : (Int32 × Mm)} (h : FX7_addressOne x2 M = some R) : WP l G tc D lay (fun _ => True) yX7_addressOne.cls cX7_addressOne 3 rX7_addressOne (.code yX7_addressOne cX7_addressOne 3 (some .int)) 0 (entL 3 [.ref 68, .ref 2, .int x2]) [] M (RetQ cX7_addressOne (some .int) (RQI R.1 R.2)) := by
  show WP l G tc D lay (fun _ => True) RX7 cX7_addressOne 3 rX7_addressOne (.code yX7_addressOne cX7_addressOne 3 (some .int)) 0 [some (.ref 68), some (.ref 2), some (.int x2)] [] M (RetQ cX7_addressOne (some .int) (RQI R.1 R.2))
  unfold FX7_addressOne at h
  refine WP.aload_n dX7_addressOne_0 rfl rfl ?_
  refine WP.getR (j := 2) dX7_addressOne_1 rfl rfl in_X0 (by decide) wd_90 rfl ?_
  refine WP.iload_n dX7_addressOne_4 rfl rfl ?_
  obtain ⟨v1, h2, h⟩ := Option.bind_eq_some_iff.mp h
  refine WP.zaldQ dX7_addressOne_5 rfl h2 ?_
  refine WP.if_eq (tgt := 16) dX7_addressOne_6 (by decide) (fun c3 => ?_) (fun c3 => ?_)
  · rw [if_pos c3] at h
    refine WP.aload_n dX7_addressOne_16 rfl rfl ?_
    refine WP.iload_n dX7_addressOne_17 rfl rfl ?_
    obtain ⟨p5, h4, h⟩ := Option.bind_eq_some_iff.mp h
    refine WP.callVI [.int x2] dX7_addressOne_18 lk_X7_32 rfl rfl rfl (Nat.le_of_ble_eq_true rfl) (by decide) (Nat.le_of_ble_eq_true rfl) rfl (TX7_addressLent h4) ?_
    cases h
    exact WP.iret dX7_addressOne_21 ⟨rfl, rfl⟩
  · rw [if_neg c3] at h
    refine WP.aload_n dX7_addressOne_9 rfl rfl ?_
    obtain ⟨p7, h6, h⟩ := Option.bind_eq_some_iff.mp h
    refine WP.callVI [] dX7_addressOne_10 lk_X7_28 rfl rfl rfl (Nat.le_of_ble_eq_true rfl) (by decide) (Nat.le_of_ble_eq_true rfl) rfl (TX7_addressMade h6) ?_
    refine WP.goto (tgt := 21) dX7_addressOne_13 (by decide) ?_
    cases h
    exact WP.iret dX7_addressOne_21 ⟨rfl, rfl⟩
end
