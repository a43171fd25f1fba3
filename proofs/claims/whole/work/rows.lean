section
-- PART A of the skeleton, the printed names (starting texts); the shape of the heap
/-- a private method of a class that the tables say can be made, by its rows of tables_1 -/
def lw_okq (q : MethodName × Nat) : Prop := (q.1.cls ≠ "java/lang/invoke/MethodHandle" ∧ q.1.cls ≠ "java/lang/invoke/VarHandle") ∧ Cond.instantiable q.1.cls q.2 ∈ tables_1 ∧ Cond.privateMethod q.1 ∈ tables_1 ∧ Cond.instanceMethod q.1 ∈ tables_1
theorem lw_p0 : lw_okq (⟨"ContactWays$PlanReader", "skipBlanks", "()V"⟩, 4) := ⟨⟨by decide +kernel, by decide +kernel⟩, List.mem_of_getElem? (i := 40) (by decide +kernel), List.mem_of_getElem? (i := 353) (by decide +kernel), List.mem_of_getElem? (i := 354) (by decide +kernel)⟩
theorem lw_p1 : lw_okq (⟨"ContactWays$PlanReader", "readItem", "(Z)V"⟩, 4) := ⟨⟨by decide +kernel, by decide +kernel⟩, List.mem_of_getElem? (i := 40) (by decide +kernel), List.mem_of_getElem? (i := 361) (by decide +kernel), List.mem_of_getElem? (i := 362) (by decide +kernel)⟩
theorem lw_p2 : lw_okq (⟨"ContactWays$PlanReader", "readNodes", "()V"⟩, 4) := ⟨⟨by decide +kernel, by decide +kernel⟩, List.mem_of_getElem? (i := 40) (by decide +kernel), List.mem_of_getElem? (i := 365) (by decide +kernel), List.mem_of_getElem? (i := 366) (by decide +kernel)⟩
theorem lw_p3 : lw_okq (⟨"ContactWays$PlanReader", "readNumber", "(III)I"⟩, 4) := ⟨⟨by decide +kernel, by decide +kernel⟩, List.mem_of_getElem? (i := 40) (by decide +kernel), List.mem_of_getElem? (i := 369) (by decide +kernel), List.mem_of_getElem? (i := 370) (by decide +kernel)⟩
theorem lw_p4 : lw_okq (⟨"ContactWays$PlanReader", "blame", "(I)V"⟩, 4) := ⟨⟨by decide +kernel, by decide +kernel⟩, List.mem_of_getElem? (i := 40) (by decide +kernel), List.mem_of_getElem? (i := 380) (by decide +kernel), List.mem_of_getElem? (i := 381) (by decide +kernel)⟩
theorem lw_p5 : lw_okq (⟨"ContactWays$PlanReader", "readSemicolon", "()V"⟩, 4) := ⟨⟨by decide +kernel, by decide +kernel⟩, List.mem_of_getElem? (i := 40) (by decide +kernel), List.mem_of_getElem? (i := 384) (by decide +kernel), List.mem_of_getElem? (i := 385) (by decide +kernel)⟩
theorem lw_p6 : lw_okq (⟨"ContactWays$PlanReader", "readContact", "()V"⟩, 4) := ⟨⟨by decide +kernel, by decide +kernel⟩, List.mem_of_getElem? (i := 40) (by decide +kernel), List.mem_of_getElem? (i := 392) (by decide +kernel), List.mem_of_getElem? (i := 393) (by decide +kernel)⟩
theorem lw_p7 : lw_okq (⟨"ContactWays", "isSendable", "(IIII)Z"⟩, 12) := ⟨⟨by decide +kernel, by decide +kernel⟩, List.mem_of_getElem? (i := 16) (by decide +kernel), List.mem_of_getElem? (i := 445) (by decide +kernel), List.mem_of_getElem? (i := 446) (by decide +kernel)⟩
theorem lw_p8 : lw_okq (⟨"ContactWays$History", "slotAt", "(I)LContactWays$Situation;"⟩, 4) := ⟨⟨by decide +kernel, by decide +kernel⟩, List.mem_of_getElem? (i := 256) (by decide +kernel), List.mem_of_getElem? (i := 457) (by decide +kernel), List.mem_of_getElem? (i := 458) (by decide +kernel)⟩
theorem lw_p9 : lw_okq (⟨"ContactWays$Planner", "firstOf", "(LContactWays$Situation;I)I"⟩, 1) := ⟨⟨by decide +kernel, by decide +kernel⟩, List.mem_of_getElem? (i := 172) (by decide +kernel), List.mem_of_getElem? (i := 523) (by decide +kernel), List.mem_of_getElem? (i := 524) (by decide +kernel)⟩
theorem lw_p10 : lw_okq (⟨"ContactWays$Planner", "planOne", "(LContactWays$Situation;I)Z"⟩, 1) := ⟨⟨by decide +kernel, by decide +kernel⟩, List.mem_of_getElem? (i := 172) (by decide +kernel), List.mem_of_getElem? (i := 528) (by decide +kernel), List.mem_of_getElem? (i := 529) (by decide +kernel)⟩
theorem lw_p11 : lw_okq (⟨"ContactWays$Bundle", "hopsOnTheirWay", "(I)I"⟩, 9) := ⟨⟨by decide +kernel, by decide +kernel⟩, List.mem_of_getElem? (i := 188) (by decide +kernel), List.mem_of_getElem? (i := 536) (by decide +kernel), List.mem_of_getElem? (i := 537) (by decide +kernel)⟩
theorem lw_p12 : lw_okq (⟨"ContactWays$Router", "openWindows", "(LContactWays$Situation;)V"⟩, 8) := ⟨⟨by decide +kernel, by decide +kernel⟩, List.mem_of_getElem? (i := 117) (by decide +kernel), List.mem_of_getElem? (i := 549) (by decide +kernel), List.mem_of_getElem? (i := 550) (by decide +kernel)⟩
theorem lw_p13 : lw_okq (⟨"ContactWays$Router", "closeTicks", "(LContactWays$Table;I)V"⟩, 8) := ⟨⟨by decide +kernel, by decide +kernel⟩, List.mem_of_getElem? (i := 117) (by decide +kernel), List.mem_of_getElem? (i := 561) (by decide +kernel), List.mem_of_getElem? (i := 562) (by decide +kernel)⟩
theorem lw_p14 : lw_okq (⟨"ContactWays$Router", "countRuns", "()V"⟩, 8) := ⟨⟨by decide +kernel, by decide +kernel⟩, List.mem_of_getElem? (i := 117) (by decide +kernel), List.mem_of_getElem? (i := 565) (by decide +kernel), List.mem_of_getElem? (i := 566) (by decide +kernel)⟩
theorem lw_p15 : lw_okq (⟨"ContactWays$Router", "firstBegin", "(III)I"⟩, 8) := ⟨⟨by decide +kernel, by decide +kernel⟩, List.mem_of_getElem? (i := 117) (by decide +kernel), List.mem_of_getElem? (i := 580) (by decide +kernel), List.mem_of_getElem? (i := 581) (by decide +kernel)⟩
def lw_privs_1 : List (MethodName × Nat) := [(⟨"ContactWays$PlanReader", "skipBlanks", "()V"⟩, 4), (⟨"ContactWays$PlanReader", "readItem", "(Z)V"⟩, 4), (⟨"ContactWays$PlanReader", "readNodes", "()V"⟩, 4), (⟨"ContactWays$PlanReader", "readNumber", "(III)I"⟩, 4), (⟨"ContactWays$PlanReader", "blame", "(I)V"⟩, 4), (⟨"ContactWays$PlanReader", "readSemicolon", "()V"⟩, 4), (⟨"ContactWays$PlanReader", "readContact", "()V"⟩, 4), (⟨"ContactWays", "isSendable", "(IIII)Z"⟩, 12), (⟨"ContactWays$History", "slotAt", "(I)LContactWays$Situation;"⟩, 4), (⟨"ContactWays$Planner", "firstOf", "(LContactWays$Situation;I)I"⟩, 1), (⟨"ContactWays$Planner", "planOne", "(LContactWays$Situation;I)Z"⟩, 1), (⟨"ContactWays$Bundle", "hopsOnTheirWay", "(I)I"⟩, 9), (⟨"ContactWays$Router", "openWindows", "(LContactWays$Situation;)V"⟩, 8), (⟨"ContactWays$Router", "closeTicks", "(LContactWays$Table;I)V"⟩, 8), (⟨"ContactWays$Router", "countRuns", "()V"⟩, 8), (⟨"ContactWays$Router", "firstBegin", "(III)I"⟩, 8)]
theorem lw_r1 : ∀ q ∈ lw_privs_1, lw_okq q := List.forall_mem_cons.mpr ⟨lw_p0, List.forall_mem_cons.mpr ⟨lw_p1, List.forall_mem_cons.mpr ⟨lw_p2, List.forall_mem_cons.mpr ⟨lw_p3, List.forall_mem_cons.mpr ⟨lw_p4, List.forall_mem_cons.mpr ⟨lw_p5, List.forall_mem_cons.mpr ⟨lw_p6, List.forall_mem_cons.mpr ⟨lw_p7, List.forall_mem_cons.mpr ⟨lw_p8, List.forall_mem_cons.mpr ⟨lw_p9, List.forall_mem_cons.mpr ⟨lw_p10, List.forall_mem_cons.mpr ⟨lw_p11, List.forall_mem_cons.mpr ⟨lw_p12, List.forall_mem_cons.mpr ⟨lw_p13, List.forall_mem_cons.mpr ⟨lw_p14, List.forall_mem_cons.mpr ⟨lw_p15, fun _ h => absurd h List.not_mem_nil⟩⟩⟩⟩⟩⟩⟩⟩⟩⟩⟩⟩⟩⟩⟩⟩
theorem lw_p16 : lw_okq (⟨"ContactWays$Router", "setTrail", "(IIIII)V"⟩, 8) := ⟨⟨by decide +kernel, by decide +kernel⟩, List.mem_of_getElem? (i := 117) (by decide +kernel), List.mem_of_getElem? (i := 584) (by decide +kernel), List.mem_of_getElem? (i := 585) (by decide +kernel)⟩
theorem lw_p17 : lw_okq (⟨"ContactWays$Planner", "pushOut", "(LContactWays$Situation;I)I"⟩, 1) := ⟨⟨by decide +kernel, by decide +kernel⟩, List.mem_of_getElem? (i := 172) (by decide +kernel), List.mem_of_getElem? (i := 590) (by decide +kernel), List.mem_of_getElem? (i := 591) (by decide +kernel)⟩
theorem lw_p18 : lw_okq (⟨"ContactWays", "predict", "(IIII)I"⟩, 12) := ⟨⟨by decide +kernel, by decide +kernel⟩, List.mem_of_getElem? (i := 16) (by decide +kernel), List.mem_of_getElem? (i := 708) (by decide +kernel), List.mem_of_getElem? (i := 709) (by decide +kernel)⟩
theorem lw_p19 : lw_okq (⟨"ContactWays", "explainsAll", "(I)Z"⟩, 12) := ⟨⟨by decide +kernel, by decide +kernel⟩, List.mem_of_getElem? (i := 16) (by decide +kernel), List.mem_of_getElem? (i := 736) (by decide +kernel), List.mem_of_getElem? (i := 737) (by decide +kernel)⟩
theorem lw_p20 : lw_okq (⟨"ContactWays", "imageAt", "(I)LContactWays$Situation;"⟩, 12) := ⟨⟨by decide +kernel, by decide +kernel⟩, List.mem_of_getElem? (i := 16) (by decide +kernel), List.mem_of_getElem? (i := 744) (by decide +kernel), List.mem_of_getElem? (i := 745) (by decide +kernel)⟩
theorem lw_p21 : lw_okq (⟨"ContactWaysModel", "begins", "()V"⟩, 28) := ⟨⟨by decide +kernel, by decide +kernel⟩, List.mem_of_getElem? (i := 756) (by decide +kernel), List.mem_of_getElem? (i := 762) (by decide +kernel), List.mem_of_getElem? (i := 763) (by decide +kernel)⟩
theorem lw_p22 : lw_okq (⟨"ContactWaysModel", "becomes", "()V"⟩, 28) := ⟨⟨by decide +kernel, by decide +kernel⟩, List.mem_of_getElem? (i := 756) (by decide +kernel), List.mem_of_getElem? (i := 766) (by decide +kernel), List.mem_of_getElem? (i := 767) (by decide +kernel)⟩
theorem lw_p23 : lw_okq (⟨"ContactWaysModel", "takes", "()V"⟩, 28) := ⟨⟨by decide +kernel, by decide +kernel⟩, List.mem_of_getElem? (i := 756) (by decide +kernel), List.mem_of_getElem? (i := 871) (by decide +kernel), List.mem_of_getElem? (i := 872) (by decide +kernel)⟩
theorem lw_p24 : lw_okq (⟨"ContactWaysModel", "isFigure", "(I)Z"⟩, 28) := ⟨⟨by decide +kernel, by decide +kernel⟩, List.mem_of_getElem? (i := 756) (by decide +kernel), List.mem_of_getElem? (i := 875) (by decide +kernel), List.mem_of_getElem? (i := 876) (by decide +kernel)⟩
theorem lw_p25 : lw_okq (⟨"ContactWaysModel", "readsNodes", "(I)Z"⟩, 28) := ⟨⟨by decide +kernel, by decide +kernel⟩, List.mem_of_getElem? (i := 756) (by decide +kernel), List.mem_of_getElem? (i := 879) (by decide +kernel), List.mem_of_getElem? (i := 880) (by decide +kernel)⟩
theorem lw_p26 : lw_okq (⟨"ContactWaysModel", "readsContact", "()Z"⟩, 28) := ⟨⟨by decide +kernel, by decide +kernel⟩, List.mem_of_getElem? (i := 756) (by decide +kernel), List.mem_of_getElem? (i := 883) (by decide +kernel), List.mem_of_getElem? (i := 884) (by decide +kernel)⟩
theorem lw_p27 : lw_okq (⟨"ContactWaysModel", "reads", "(III)Z"⟩, 28) := ⟨⟨by decide +kernel, by decide +kernel⟩, List.mem_of_getElem? (i := 756) (by decide +kernel), List.mem_of_getElem? (i := 887) (by decide +kernel), List.mem_of_getElem? (i := 888) (by decide +kernel)⟩
theorem lw_p28 : lw_okq (⟨"ContactWaysModel", "isContact", "(I)Z"⟩, 28) := ⟨⟨by decide +kernel, by decide +kernel⟩, List.mem_of_getElem? (i := 756) (by decide +kernel), List.mem_of_getElem? (i := 895) (by decide +kernel), List.mem_of_getElem? (i := 896) (by decide +kernel)⟩
theorem lw_p29 : lw_okq (⟨"ContactWaysModel", "isMissed", "(I)Z"⟩, 28) := ⟨⟨by decide +kernel, by decide +kernel⟩, List.mem_of_getElem? (i := 756) (by decide +kernel), List.mem_of_getElem? (i := 899) (by decide +kernel), List.mem_of_getElem? (i := 900) (by decide +kernel)⟩
theorem lw_p30 : lw_okq (⟨"ContactWaysModel", "isNode", "(I)Z"⟩, 28) := ⟨⟨by decide +kernel, by decide +kernel⟩, List.mem_of_getElem? (i := 756) (by decide +kernel), List.mem_of_getElem? (i := 907) (by decide +kernel), List.mem_of_getElem? (i := 908) (by decide +kernel)⟩
theorem lw_p31 : lw_okq (⟨"ContactWaysModel", "notes", "()V"⟩, 28) := ⟨⟨by decide +kernel, by decide +kernel⟩, List.mem_of_getElem? (i := 756) (by decide +kernel), List.mem_of_getElem? (i := 911) (by decide +kernel), List.mem_of_getElem? (i := 912) (by decide +kernel)⟩
def lw_privs_2 : List (MethodName × Nat) := [(⟨"ContactWays$Router", "setTrail", "(IIIII)V"⟩, 8), (⟨"ContactWays$Planner", "pushOut", "(LContactWays$Situation;I)I"⟩, 1), (⟨"ContactWays", "predict", "(IIII)I"⟩, 12), (⟨"ContactWays", "explainsAll", "(I)Z"⟩, 12), (⟨"ContactWays", "imageAt", "(I)LContactWays$Situation;"⟩, 12), (⟨"ContactWaysModel", "begins", "()V"⟩, 28), (⟨"ContactWaysModel", "becomes", "()V"⟩, 28), (⟨"ContactWaysModel", "takes", "()V"⟩, 28), (⟨"ContactWaysModel", "isFigure", "(I)Z"⟩, 28), (⟨"ContactWaysModel", "readsNodes", "(I)Z"⟩, 28), (⟨"ContactWaysModel", "readsContact", "()Z"⟩, 28), (⟨"ContactWaysModel", "reads", "(III)Z"⟩, 28), (⟨"ContactWaysModel", "isContact", "(I)Z"⟩, 28), (⟨"ContactWaysModel", "isMissed", "(I)Z"⟩, 28), (⟨"ContactWaysModel", "isNode", "(I)Z"⟩, 28), (⟨"ContactWaysModel", "notes", "()V"⟩, 28)]
theorem lw_r2 : ∀ q ∈ lw_privs_2, lw_okq q := List.forall_mem_cons.mpr ⟨lw_p16, List.forall_mem_cons.mpr ⟨lw_p17, List.forall_mem_cons.mpr ⟨lw_p18, List.forall_mem_cons.mpr ⟨lw_p19, List.forall_mem_cons.mpr ⟨lw_p20, List.forall_mem_cons.mpr ⟨lw_p21, List.forall_mem_cons.mpr ⟨lw_p22, List.forall_mem_cons.mpr ⟨lw_p23, List.forall_mem_cons.mpr ⟨lw_p24, List.forall_mem_cons.mpr ⟨lw_p25, List.forall_mem_cons.mpr ⟨lw_p26, List.forall_mem_cons.mpr ⟨lw_p27, List.forall_mem_cons.mpr ⟨lw_p28, List.forall_mem_cons.mpr ⟨lw_p29, List.forall_mem_cons.mpr ⟨lw_p30, List.forall_mem_cons.mpr ⟨lw_p31, fun _ h => absurd h List.not_mem_nil⟩⟩⟩⟩⟩⟩⟩⟩⟩⟩⟩⟩⟩⟩⟩⟩
theorem lw_p32 : lw_okq (⟨"ContactWaysModel", "copies", "([I[III)V"⟩, 28) := ⟨⟨by decide +kernel, by decide +kernel⟩, List.mem_of_getElem? (i := 756) (by decide +kernel), List.mem_of_getElem? (i := 915) (by decide +kernel), List.mem_of_getElem? (i := 916) (by decide +kernel)⟩
theorem lw_p33 : lw_okq (⟨"ContactWaysModel", "plansAll", "(I)V"⟩, 28) := ⟨⟨by decide +kernel, by decide +kernel⟩, List.mem_of_getElem? (i := 756) (by decide +kernel), List.mem_of_getElem? (i := 922) (by decide +kernel), List.mem_of_getElem? (i := 923) (by decide +kernel)⟩
theorem lw_p34 : lw_okq (⟨"ContactWaysModel", "its", "(II)I"⟩, 28) := ⟨⟨by decide +kernel, by decide +kernel⟩, List.mem_of_getElem? (i := 756) (by decide +kernel), List.mem_of_getElem? (i := 929) (by decide +kernel), List.mem_of_getElem? (i := 930) (by decide +kernel)⟩
theorem lw_p35 : lw_okq (⟨"ContactWaysModel", "plans", "(I)I"⟩, 28) := ⟨⟨by decide +kernel, by decide +kernel⟩, List.mem_of_getElem? (i := 756) (by decide +kernel), List.mem_of_getElem? (i := 933) (by decide +kernel), List.mem_of_getElem? (i := 934) (by decide +kernel)⟩
theorem lw_p36 : lw_okq (⟨"ContactWaysModel", "givesUp", "(I)V"⟩, 28) := ⟨⟨by decide +kernel, by decide +kernel⟩, List.mem_of_getElem? (i := 756) (by decide +kernel), List.mem_of_getElem? (i := 937) (by decide +kernel), List.mem_of_getElem? (i := 938) (by decide +kernel)⟩
theorem lw_p37 : lw_okq (⟨"ContactWaysModel", "stateOf", "(I)I"⟩, 28) := ⟨⟨by decide +kernel, by decide +kernel⟩, List.mem_of_getElem? (i := 756) (by decide +kernel), List.mem_of_getElem? (i := 941) (by decide +kernel), List.mem_of_getElem? (i := 942) (by decide +kernel)⟩
theorem lw_p38 : lw_okq (⟨"ContactWaysModel", "isOn", "(I)Z"⟩, 28) := ⟨⟨by decide +kernel, by decide +kernel⟩, List.mem_of_getElem? (i := 756) (by decide +kernel), List.mem_of_getElem? (i := 945) (by decide +kernel), List.mem_of_getElem? (i := 946) (by decide +kernel)⟩
theorem lw_p39 : lw_okq (⟨"ContactWaysModel", "leads", "(I)I"⟩, 28) := ⟨⟨by decide +kernel, by decide +kernel⟩, List.mem_of_getElem? (i := 756) (by decide +kernel), List.mem_of_getElem? (i := 949) (by decide +kernel), List.mem_of_getElem? (i := 950) (by decide +kernel)⟩
theorem lw_p40 : lw_okq (⟨"ContactWaysModel", "arrival", "(III)I"⟩, 28) := ⟨⟨by decide +kernel, by decide +kernel⟩, List.mem_of_getElem? (i := 756) (by decide +kernel), List.mem_of_getElem? (i := 953) (by decide +kernel), List.mem_of_getElem? (i := 954) (by decide +kernel)⟩
theorem lw_p41 : lw_okq (⟨"ContactWaysModel", "ticks", "(II)I"⟩, 28) := ⟨⟨by decide +kernel, by decide +kernel⟩, List.mem_of_getElem? (i := 756) (by decide +kernel), List.mem_of_getElem? (i := 957) (by decide +kernel), List.mem_of_getElem? (i := 958) (by decide +kernel)⟩
theorem lw_p42 : lw_okq (⟨"ContactWaysModel", "laysTaken", "(II)V"⟩, 28) := ⟨⟨by decide +kernel, by decide +kernel⟩, List.mem_of_getElem? (i := 756) (by decide +kernel), List.mem_of_getElem? (i := 961) (by decide +kernel), List.mem_of_getElem? (i := 962) (by decide +kernel)⟩
theorem lw_p43 : lw_okq (⟨"ContactWaysModel", "marks", "(III)V"⟩, 28) := ⟨⟨by decide +kernel, by decide +kernel⟩, List.mem_of_getElem? (i := 756) (by decide +kernel), List.mem_of_getElem? (i := 965) (by decide +kernel), List.mem_of_getElem? (i := 966) (by decide +kernel)⟩
theorem lw_p44 : lw_okq (⟨"ContactWaysModel", "findsEnd", "(IIIII)Z"⟩, 28) := ⟨⟨by decide +kernel, by decide +kernel⟩, List.mem_of_getElem? (i := 756) (by decide +kernel), List.mem_of_getElem? (i := 969) (by decide +kernel), List.mem_of_getElem? (i := 970) (by decide +kernel)⟩
theorem lw_p45 : lw_okq (⟨"ContactWaysModel", "laysFirst", "(IIIII)V"⟩, 28) := ⟨⟨by decide +kernel, by decide +kernel⟩, List.mem_of_getElem? (i := 756) (by decide +kernel), List.mem_of_getElem? (i := 973) (by decide +kernel), List.mem_of_getElem? (i := 974) (by decide +kernel)⟩
theorem lw_p46 : lw_okq (⟨"ContactWaysModel", "endsAt", "(III)I"⟩, 28) := ⟨⟨by decide +kernel, by decide +kernel⟩, List.mem_of_getElem? (i := 756) (by decide +kernel), List.mem_of_getElem? (i := 977) (by decide +kernel), List.mem_of_getElem? (i := 978) (by decide +kernel)⟩
theorem lw_p47 : lw_okq (⟨"ContactWaysModel", "beginsAt", "(III)I"⟩, 28) := ⟨⟨by decide +kernel, by decide +kernel⟩, List.mem_of_getElem? (i := 756) (by decide +kernel), List.mem_of_getElem? (i := 981) (by decide +kernel), List.mem_of_getElem? (i := 982) (by decide +kernel)⟩
def lw_privs_3 : List (MethodName × Nat) := [(⟨"ContactWaysModel", "copies", "([I[III)V"⟩, 28), (⟨"ContactWaysModel", "plansAll", "(I)V"⟩, 28), (⟨"ContactWaysModel", "its", "(II)I"⟩, 28), (⟨"ContactWaysModel", "plans", "(I)I"⟩, 28), (⟨"ContactWaysModel", "givesUp", "(I)V"⟩, 28), (⟨"ContactWaysModel", "stateOf", "(I)I"⟩, 28), (⟨"ContactWaysModel", "isOn", "(I)Z"⟩, 28), (⟨"ContactWaysModel", "leads", "(I)I"⟩, 28), (⟨"ContactWaysModel", "arrival", "(III)I"⟩, 28), (⟨"ContactWaysModel", "ticks", "(II)I"⟩, 28), (⟨"ContactWaysModel", "laysTaken", "(II)V"⟩, 28), (⟨"ContactWaysModel", "marks", "(III)V"⟩, 28), (⟨"ContactWaysModel", "findsEnd", "(IIIII)Z"⟩, 28), (⟨"ContactWaysModel", "laysFirst", "(IIIII)V"⟩, 28), (⟨"ContactWaysModel", "endsAt", "(III)I"⟩, 28), (⟨"ContactWaysModel", "beginsAt", "(III)I"⟩, 28)]
theorem lw_r3 : ∀ q ∈ lw_privs_3, lw_okq q := List.forall_mem_cons.mpr ⟨lw_p32, List.forall_mem_cons.mpr ⟨lw_p33, List.forall_mem_cons.mpr ⟨lw_p34, List.forall_mem_cons.mpr ⟨lw_p35, List.forall_mem_cons.mpr ⟨lw_p36, List.forall_mem_cons.mpr ⟨lw_p37, List.forall_mem_cons.mpr ⟨lw_p38, List.forall_mem_cons.mpr ⟨lw_p39, List.forall_mem_cons.mpr ⟨lw_p40, List.forall_mem_cons.mpr ⟨lw_p41, List.forall_mem_cons.mpr ⟨lw_p42, List.forall_mem_cons.mpr ⟨lw_p43, List.forall_mem_cons.mpr ⟨lw_p44, List.forall_mem_cons.mpr ⟨lw_p45, List.forall_mem_cons.mpr ⟨lw_p46, List.forall_mem_cons.mpr ⟨lw_p47, fun _ h => absurd h List.not_mem_nil⟩⟩⟩⟩⟩⟩⟩⟩⟩⟩⟩⟩⟩⟩⟩⟩
theorem lw_p48 : lw_okq (⟨"ContactWaysModel", "findsWay", "(IIII)V"⟩, 28) := ⟨⟨by decide +kernel, by decide +kernel⟩, List.mem_of_getElem? (i := 756) (by decide +kernel), List.mem_of_getElem? (i := 985) (by decide +kernel), List.mem_of_getElem? (i := 986) (by decide +kernel)⟩
theorem lw_p49 : lw_okq (⟨"ContactWaysModel", "leadsThere", "(IIIIII)Z"⟩, 28) := ⟨⟨by decide +kernel, by decide +kernel⟩, List.mem_of_getElem? (i := 756) (by decide +kernel), List.mem_of_getElem? (i := 989) (by decide +kernel), List.mem_of_getElem? (i := 990) (by decide +kernel)⟩
theorem lw_p50 : lw_okq (⟨"ContactWaysModel", "pushesOut", "(I)I"⟩, 28) := ⟨⟨by decide +kernel, by decide +kernel⟩, List.mem_of_getElem? (i := 756) (by decide +kernel), List.mem_of_getElem? (i := 993) (by decide +kernel), List.mem_of_getElem? (i := 994) (by decide +kernel)⟩
theorem lw_p51 : lw_okq (⟨"ContactWaysModel", "meets", "(IIII)Z"⟩, 28) := ⟨⟨by decide +kernel, by decide +kernel⟩, List.mem_of_getElem? (i := 756) (by decide +kernel), List.mem_of_getElem? (i := 997) (by decide +kernel), List.mem_of_getElem? (i := 998) (by decide +kernel)⟩
theorem lw_p52 : lw_okq (⟨"ContactWaysModel", "lastEnd", "(I)I"⟩, 28) := ⟨⟨by decide +kernel, by decide +kernel⟩, List.mem_of_getElem? (i := 756) (by decide +kernel), List.mem_of_getElem? (i := 1001) (by decide +kernel), List.mem_of_getElem? (i := 1002) (by decide +kernel)⟩
theorem lw_p53 : lw_okq (⟨"ContactWaysModel", "isBundle", "(I)Z"⟩, 28) := ⟨⟨by decide +kernel, by decide +kernel⟩, List.mem_of_getElem? (i := 756) (by decide +kernel), List.mem_of_getElem? (i := 1009) (by decide +kernel), List.mem_of_getElem? (i := 1010) (by decide +kernel)⟩
theorem lw_p54 : lw_okq (⟨"ContactWaysModel", "moves", "(I)V"⟩, 28) := ⟨⟨by decide +kernel, by decide +kernel⟩, List.mem_of_getElem? (i := 756) (by decide +kernel), List.mem_of_getElem? (i := 1017) (by decide +kernel), List.mem_of_getElem? (i := 1018) (by decide +kernel)⟩
theorem lw_p55 : lw_okq (⟨"ContactWaysModel", "loses", "(I)V"⟩, 28) := ⟨⟨by decide +kernel, by decide +kernel⟩, List.mem_of_getElem? (i := 756) (by decide +kernel), List.mem_of_getElem? (i := 1025) (by decide +kernel), List.mem_of_getElem? (i := 1026) (by decide +kernel)⟩
theorem lw_p56 : lw_okq (⟨"ContactWaysModel", "hasHopOn", "(II)Z"⟩, 28) := ⟨⟨by decide +kernel, by decide +kernel⟩, List.mem_of_getElem? (i := 756) (by decide +kernel), List.mem_of_getElem? (i := 1029) (by decide +kernel), List.mem_of_getElem? (i := 1030) (by decide +kernel)⟩
theorem lw_p57 : lw_okq (⟨"ContactWaysModel", "countOf", "(I)I"⟩, 28) := ⟨⟨by decide +kernel, by decide +kernel⟩, List.mem_of_getElem? (i := 756) (by decide +kernel), List.mem_of_getElem? (i := 1033) (by decide +kernel), List.mem_of_getElem? (i := 1034) (by decide +kernel)⟩
theorem lw_p58 : lw_okq (⟨"ContactWaysModel", "takesTick", "(IIII)Z"⟩, 28) := ⟨⟨by decide +kernel, by decide +kernel⟩, List.mem_of_getElem? (i := 756) (by decide +kernel), List.mem_of_getElem? (i := 1057) (by decide +kernel), List.mem_of_getElem? (i := 1058) (by decide +kernel)⟩
theorem lw_p59 : lw_okq (⟨"ContactWaysModel", "askedOf", "(IIIII)I"⟩, 28) := ⟨⟨by decide +kernel, by decide +kernel⟩, List.mem_of_getElem? (i := 756) (by decide +kernel), List.mem_of_getElem? (i := 1065) (by decide +kernel), List.mem_of_getElem? (i := 1066) (by decide +kernel)⟩
def lw_privs_4 : List (MethodName × Nat) := [(⟨"ContactWaysModel", "findsWay", "(IIII)V"⟩, 28), (⟨"ContactWaysModel", "leadsThere", "(IIIIII)Z"⟩, 28), (⟨"ContactWaysModel", "pushesOut", "(I)I"⟩, 28), (⟨"ContactWaysModel", "meets", "(IIII)Z"⟩, 28), (⟨"ContactWaysModel", "lastEnd", "(I)I"⟩, 28), (⟨"ContactWaysModel", "isBundle", "(I)Z"⟩, 28), (⟨"ContactWaysModel", "moves", "(I)V"⟩, 28), (⟨"ContactWaysModel", "loses", "(I)V"⟩, 28), (⟨"ContactWaysModel", "hasHopOn", "(II)Z"⟩, 28), (⟨"ContactWaysModel", "countOf", "(I)I"⟩, 28), (⟨"ContactWaysModel", "takesTick", "(IIII)Z"⟩, 28), (⟨"ContactWaysModel", "askedOf", "(IIIII)I"⟩, 28)]
theorem lw_r4 : ∀ q ∈ lw_privs_4, lw_okq q := List.forall_mem_cons.mpr ⟨lw_p48, List.forall_mem_cons.mpr ⟨lw_p49, List.forall_mem_cons.mpr ⟨lw_p50, List.forall_mem_cons.mpr ⟨lw_p51, List.forall_mem_cons.mpr ⟨lw_p52, List.forall_mem_cons.mpr ⟨lw_p53, List.forall_mem_cons.mpr ⟨lw_p54, List.forall_mem_cons.mpr ⟨lw_p55, List.forall_mem_cons.mpr ⟨lw_p56, List.forall_mem_cons.mpr ⟨lw_p57, List.forall_mem_cons.mpr ⟨lw_p58, List.forall_mem_cons.mpr ⟨lw_p59, fun _ h => absurd h List.not_mem_nil⟩⟩⟩⟩⟩⟩⟩⟩⟩⟩⟩⟩
def lw_privs : List (MethodName × Nat) := lw_privs_1 ++ (lw_privs_2 ++ (lw_privs_3 ++ (lw_privs_4)))
def lw_tbl : List Cond := k2_sels lw_privs ++ tables_1
theorem lw_privs_ok : ∀ q ∈ lw_privs, lw_okq q := by
  show ∀ q ∈ lw_privs_1 ++ (lw_privs_2 ++ (lw_privs_3 ++ (lw_privs_4))), lw_okq q
  exact List.forall_mem_append.mpr ⟨lw_r1, List.forall_mem_append.mpr ⟨lw_r2, List.forall_mem_append.mpr ⟨lw_r3, lw_r4⟩⟩⟩
def RX0 : String := "ContactWays$Bundle"
def TX0 : u_T := fun k => match k with
  | 0 => ("ContactWays$Bundle", "network", "LContactWays$Network;", true)
  | 1 => ("ContactWays$Bundle", "hops", "LContactWays$Table;", true)
  | 2 => ("ContactWays$Bundle", "node", "I", false)
  | 3 => ("ContactWays$Bundle", "goal", "I", false)
  | 4 => ("ContactWays$Bundle", "size", "I", false)
  | 5 => ("ContactWays$Bundle", "deadline", "I", false)
  | 6 => ("ContactWays$Bundle", "priority", "I", false)
  | 7 => ("ContactWays$Bundle", "dropped", "Z", false)
  | _ => ("ContactWays$Bundle", "reason", "I", false)
def tyX0 : Nat → FieldType := fun k => match k with
  | 0 => .object "ContactWays$Network"
  | 1 => .object "ContactWays$Table"
  | 2 => .int
  | 3 => .int
  | 4 => .int
  | 5 => .int
  | 6 => .int
  | 7 => .boolean
  | _ => .int
abbrev wsX00 : List Cond := u_ws RX0 TX0 9
theorem nmX0 : ∀ a, a < 9 → ∀ b, b < 9 → a ≠ b → (TX0 a).2.1 ≠ (TX0 b).2.1 := by decide +kernel
theorem tyX0_ok : ∀ k, k < 9 → parseFieldDescriptor (TX0 k).2.2.1 = some (tyX0 k) := by decide +kernel
abbrev cX0_init : ByteArray := prog_2_method_1_code
def yX0_init : MethodName := ⟨RX0, "<init>", "(LContactWays$Network;)V"⟩
abbrev cX0_start : ByteArray := prog_2_method_2_code
def yX0_start : MethodName := ⟨RX0, "start", "(IIIII)V"⟩
abbrev cX0_copyFrom : ByteArray := prog_2_method_3_code
def yX0_copyFrom : MethodName := ⟨RX0, "copyFrom", "(LContactWays$Bundle;)V"⟩
abbrev cX0_standing : ByteArray := prog_2_method_4_code
def yX0_standing : MethodName := ⟨RX0, "standing", "(I)I"⟩
abbrev cX0_lastNode : ByteArray := prog_2_method_5_code
def yX0_lastNode : MethodName := ⟨RX0, "lastNode", "()I"⟩
abbrev cX0_lastThere : ByteArray := prog_2_method_6_code
def yX0_lastThere : MethodName := ⟨RX0, "lastThere", "()I"⟩
abbrev cX0_property : ByteArray := prog_2_method_7_code
def yX0_property : MethodName := ⟨RX0, "property", "(II)I"⟩
abbrev cX0_drop : ByteArray := prog_2_method_8_code
def yX0_drop : MethodName := ⟨RX0, "drop", "(I)V"⟩
abbrev cX0_giveUpHopsToCome : ByteArray := prog_2_method_9_code
def yX0_giveUpHopsToCome : MethodName := ⟨RX0, "giveUpHopsToCome", "(I)V"⟩
abbrev cX0_hopsOnTheirWay : ByteArray := prog_2_method_10_code
def yX0_hopsOnTheirWay : MethodName := ⟨RX0, "hopsOnTheirWay", "(I)I"⟩
abbrev cX0_arrive : ByteArray := prog_2_method_11_code
def yX0_arrive : MethodName := ⟨RX0, "arrive", "(I)V"⟩
abbrev cX0_loses : ByteArray := prog_2_method_12_code
def yX0_loses : MethodName := ⟨RX0, "loses", "(II)Z"⟩
abbrev cX0_takes : ByteArray := prog_2_method_13_code
def yX0_takes : MethodName := ⟨RX0, "takes", "(II)Z"⟩
abbrev cX0_standsInTheWayOf : ByteArray := prog_2_method_14_code
def yX0_standsInTheWayOf : MethodName := ⟨RX0, "standsInTheWayOf", "(LContactWays$Bundle;I)Z"⟩
def RX1 : String := "ContactWays$Contact"
def TX1 : u_T := fun k => match k with
  | 0 => ("ContactWays$Contact", "from", "I", true)
  | 1 => ("ContactWays$Contact", "to", "I", true)
  | 2 => ("ContactWays$Contact", "start", "I", true)
  | 3 => ("ContactWays$Contact", "end", "I", true)
  | 4 => ("ContactWays$Contact", "rate", "I", true)
  | _ => ("ContactWays$Contact", "light", "I", true)
def tyX1 : Nat → FieldType := fun k => match k with
  | 0 => .int
  | 1 => .int
  | 2 => .int
  | 3 => .int
  | 4 => .int
  | _ => .int
abbrev wsX10 : List Cond := u_ws RX1 TX1 6
theorem nmX1 : ∀ a, a < 6 → ∀ b, b < 6 → a ≠ b → (TX1 a).2.1 ≠ (TX1 b).2.1 := by decide +kernel
theorem tyX1_ok : ∀ k, k < 6 → parseFieldDescriptor (TX1 k).2.2.1 = some (tyX1 k) := by decide +kernel
abbrev cX1_init : ByteArray := prog_3_method_1_code
def yX1_init : MethodName := ⟨RX1, "<init>", "(IIIIII)V"⟩
abbrev cX1_ticksFor : ByteArray := prog_3_method_2_code
def yX1_ticksFor : MethodName := ⟨RX1, "ticksFor", "(I)I"⟩
abbrev cX1_property : ByteArray := prog_3_method_3_code
def yX1_property : MethodName := ⟨RX1, "property", "(I)I"⟩
def RX2 : String := "ContactWays$History"
def TX2 : u_T := fun k => match k with
  | 0 => ("ContactWays$History", "spare", "LContactWays$Situation;", true)
  | 1 => ("ContactWays$History", "slots", "[LContactWays$Situation;", true)
  | 2 => ("ContactWays$History", "next", "I", false)
  | _ => ("ContactWays$History", "kept", "I", false)
def tyX2 : Nat → FieldType := fun k => match k with
  | 0 => .object "ContactWays$Situation"
  | 1 => .array (.object "ContactWays$Situation")
  | 2 => .int
  | _ => .int
abbrev wsX20 : List Cond := u_ws RX2 TX2 4
theorem nmX2 : ∀ a, a < 4 → ∀ b, b < 4 → a ≠ b → (TX2 a).2.1 ≠ (TX2 b).2.1 := by decide +kernel
theorem tyX2_ok : ∀ k, k < 4 → parseFieldDescriptor (TX2 k).2.2.1 = some (tyX2 k) := by decide +kernel
abbrev cX2_init : ByteArray := prog_4_method_1_code
def yX2_init : MethodName := ⟨RX2, "<init>", "(LContactWays$Network;)V"⟩
abbrev cX2_forgetAll : ByteArray := prog_4_method_2_code
def yX2_forgetAll : MethodName := ⟨RX2, "forgetAll", "()V"⟩
abbrev cX2_remember : ByteArray := prog_4_method_3_code
def yX2_remember : MethodName := ⟨RX2, "remember", "(LContactWays$Situation;)V"⟩
abbrev cX2_takeBack : ByteArray := prog_4_method_4_code
def yX2_takeBack : MethodName := ⟨RX2, "takeBack", "(LContactWays$Situation;)V"⟩
abbrev cX2_slotAt : ByteArray := prog_4_method_5_code
def yX2_slotAt : MethodName := ⟨RX2, "slotAt", "(I)LContactWays$Situation;"⟩
def RX3 : String := "ContactWays$Network"
def TX3 : u_T := fun k => match k with
  | 0 => ("ContactWays$Network", "nowhere", "LContactWays$Contact;", true)
  | 1 => ("ContactWays$Network", "contacts", "[LContactWays$Contact;", true)
  | 2 => ("ContactWays$Network", "contactCount", "I", false)
  | _ => ("ContactWays$Network", "nodes", "I", false)
def tyX3 : Nat → FieldType := fun k => match k with
  | 0 => .object "ContactWays$Contact"
  | 1 => .array (.object "ContactWays$Contact")
  | 2 => .int
  | _ => .int
abbrev wsX30 : List Cond := u_ws RX3 TX3 4
theorem nmX3 : ∀ a, a < 4 → ∀ b, b < 4 → a ≠ b → (TX3 a).2.1 ≠ (TX3 b).2.1 := by decide +kernel
theorem tyX3_ok : ∀ k, k < 4 → parseFieldDescriptor (TX3 k).2.2.1 = some (tyX3 k) := by decide +kernel
abbrev cX3_init : ByteArray := prog_5_method_1_code
def yX3_init : MethodName := ⟨RX3, "<init>", "()V"⟩
abbrev cX3_reset : ByteArray := prog_5_method_2_code
def yX3_reset : MethodName := ⟨RX3, "reset", "()V"⟩
abbrev cX3_hasNode : ByteArray := prog_5_method_3_code
def yX3_hasNode : MethodName := ⟨RX3, "hasNode", "(I)Z"⟩
abbrev cX3_hasContact : ByteArray := prog_5_method_4_code
def yX3_hasContact : MethodName := ⟨RX3, "hasContact", "(I)Z"⟩
abbrev cX3_hasRoom : ByteArray := prog_5_method_5_code
def yX3_hasRoom : MethodName := ⟨RX3, "hasRoom", "()Z"⟩
abbrev cX3_addContact : ByteArray := prog_5_method_6_code
def yX3_addContact : MethodName := ⟨RX3, "addContact", "(LContactWays$Contact;)V"⟩
abbrev cX3_contactAt : ByteArray := prog_5_method_7_code
def yX3_contactAt : MethodName := ⟨RX3, "contactAt", "(I)LContactWays$Contact;"⟩
abbrev cX3_copyFrom : ByteArray := prog_5_method_8_code
def yX3_copyFrom : MethodName := ⟨RX3, "copyFrom", "(LContactWays$Network;)V"⟩
def RX4 : String := "ContactWays$PlanReader"
def TX4 : u_T := fun k => match k with
  | 0 => ("ContactWays$PlanReader", "text", "LContactWays$Text;", true)
  | 1 => ("ContactWays$PlanReader", "draft", "LContactWays$Network;", true)
  | 2 => ("ContactWays$PlanReader", "position", "I", false)
  | _ => ("ContactWays$PlanReader", "fault", "I", false)
def tyX4 : Nat → FieldType := fun k => match k with
  | 0 => .object "ContactWays$Text"
  | 1 => .object "ContactWays$Network"
  | 2 => .int
  | _ => .int
abbrev wsX40 : List Cond := u_ws RX4 TX4 4
theorem nmX4 : ∀ a, a < 4 → ∀ b, b < 4 → a ≠ b → (TX4 a).2.1 ≠ (TX4 b).2.1 := by decide +kernel
theorem tyX4_ok : ∀ k, k < 4 → parseFieldDescriptor (TX4 k).2.2.1 = some (tyX4 k) := by decide +kernel
abbrev cX4_init : ByteArray := prog_6_method_1_code
def yX4_init : MethodName := ⟨RX4, "<init>", "(LContactWays$Text;)V"⟩
abbrev cX4_readPlan : ByteArray := prog_6_method_2_code
def yX4_readPlan : MethodName := ⟨RX4, "readPlan", "()I"⟩
abbrev cX4_readItem : ByteArray := prog_6_method_3_code
def yX4_readItem : MethodName := ⟨RX4, "readItem", "(Z)V"⟩
abbrev cX4_readNodes : ByteArray := prog_6_method_4_code
def yX4_readNodes : MethodName := ⟨RX4, "readNodes", "()V"⟩
abbrev cX4_readContact : ByteArray := prog_6_method_5_code
def yX4_readContact : MethodName := ⟨RX4, "readContact", "()V"⟩
abbrev cX4_readNumber : ByteArray := prog_6_method_6_code
def yX4_readNumber : MethodName := ⟨RX4, "readNumber", "(III)I"⟩
abbrev cX4_readSemicolon : ByteArray := prog_6_method_7_code
def yX4_readSemicolon : MethodName := ⟨RX4, "readSemicolon", "()V"⟩
abbrev cX4_skipBlanks : ByteArray := prog_6_method_8_code
def yX4_skipBlanks : MethodName := ⟨RX4, "skipBlanks", "()V"⟩
abbrev cX4_isDigit : ByteArray := prog_6_method_9_code
def yX4_isDigit : MethodName := ⟨RX4, "isDigit", "(I)Z"⟩
abbrev cX4_blame : ByteArray := prog_6_method_10_code
def yX4_blame : MethodName := ⟨RX4, "blame", "(I)V"⟩
def RX5 : String := "ContactWays$Planner"
def TX5 : u_T := fun k => match k with
  | _ => ("ContactWays$Planner", "router", "LContactWays$Router;", true)
def tyX5 : Nat → FieldType := fun k => match k with
  | _ => .object "ContactWays$Router"
abbrev wsX50 : List Cond := u_ws RX5 TX5 1
theorem nmX5 : ∀ a, a < 1 → ∀ b, b < 1 → a ≠ b → (TX5 a).2.1 ≠ (TX5 b).2.1 := by decide +kernel
theorem tyX5_ok : ∀ k, k < 1 → parseFieldDescriptor (TX5 k).2.2.1 = some (tyX5 k) := by decide +kernel
abbrev cX5_init : ByteArray := prog_7_method_1_code
def yX5_init : MethodName := ⟨RX5, "<init>", "(LContactWays$Router;)V"⟩
abbrev cX5_planAll : ByteArray := prog_7_method_2_code
def yX5_planAll : MethodName := ⟨RX5, "planAll", "(LContactWays$Situation;I)V"⟩
abbrev cX5_firstOf : ByteArray := prog_7_method_3_code
def yX5_firstOf : MethodName := ⟨RX5, "firstOf", "(LContactWays$Situation;I)I"⟩
abbrev cX5_planOne : ByteArray := prog_7_method_4_code
def yX5_planOne : MethodName := ⟨RX5, "planOne", "(LContactWays$Situation;I)Z"⟩
abbrev cX5_pushOut : ByteArray := prog_7_method_5_code
def yX5_pushOut : MethodName := ⟨RX5, "pushOut", "(LContactWays$Situation;I)I"⟩
def RX6 : String := "ContactWays$Router"
def TX6 : u_T := fun k => match k with
  | 0 => ("ContactWays$Router", "network", "LContactWays$Network;", true)
  | 1 => ("ContactWays$Router", "freeRuns", "LContactWays$Table;", true)
  | 2 => ("ContactWays$Router", "trail", "LContactWays$Table;", true)
  | 3 => ("ContactWays$Router", "best", "LContactWays$Table;", true)
  | 4 => ("ContactWays$Router", "bestThere", "I", false)
  | 5 => ("ContactWays$Router", "goal", "I", false)
  | 6 => ("ContactWays$Router", "size", "I", false)
  | _ => ("ContactWays$Router", "without", "I", false)
def tyX6 : Nat → FieldType := fun k => match k with
  | 0 => .object "ContactWays$Network"
  | 1 => .object "ContactWays$Table"
  | 2 => .object "ContactWays$Table"
  | 3 => .object "ContactWays$Table"
  | 4 => .int
  | 5 => .int
  | 6 => .int
  | _ => .int
abbrev wsX60 : List Cond := u_ws RX6 TX6 8
theorem nmX6 : ∀ a, a < 8 → ∀ b, b < 8 → a ≠ b → (TX6 a).2.1 ≠ (TX6 b).2.1 := by decide +kernel
theorem tyX6_ok : ∀ k, k < 8 → parseFieldDescriptor (TX6 k).2.2.1 = some (tyX6 k) := by decide +kernel
abbrev cX6_init : ByteArray := prog_8_method_1_code
def yX6_init : MethodName := ⟨RX6, "<init>", "(LContactWays$Network;)V"⟩
abbrev cX6_lookAt : ByteArray := prog_8_method_2_code
def yX6_lookAt : MethodName := ⟨RX6, "lookAt", "(LContactWays$Situation;I)V"⟩
abbrev cX6_openWindows : ByteArray := prog_8_method_3_code
def yX6_openWindows : MethodName := ⟨RX6, "openWindows", "(LContactWays$Situation;)V"⟩
abbrev cX6_closeTicks : ByteArray := prog_8_method_4_code
def yX6_closeTicks : MethodName := ⟨RX6, "closeTicks", "(LContactWays$Table;I)V"⟩
abbrev cX6_countRuns : ByteArray := prog_8_method_5_code
def yX6_countRuns : MethodName := ⟨RX6, "countRuns", "()V"⟩
abbrev cX6_seek : ByteArray := prog_8_method_6_code
def yX6_seek : MethodName := ⟨RX6, "seek", "(IIIII)I"⟩
abbrev cX6_explore : ByteArray := prog_8_method_7_code
def yX6_explore : MethodName := ⟨RX6, "explore", "(LContactWays$Router;IIII)V"⟩
abbrev cX6_firstBegin : ByteArray := prog_8_method_8_code
def yX6_firstBegin : MethodName := ⟨RX6, "firstBegin", "(III)I"⟩
abbrev cX6_setTrail : ByteArray := prog_8_method_9_code
def yX6_setTrail : MethodName := ⟨RX6, "setTrail", "(IIIII)V"⟩
def RX7 : String := "ContactWays$Situation"
def TX7 : u_T := fun k => match k with
  | 0 => ("ContactWays$Situation", "nobody", "LContactWays$Bundle;", true)
  | 1 => ("ContactWays$Situation", "bundles", "[LContactWays$Bundle;", true)
  | 2 => ("ContactWays$Situation", "bundleCount", "I", false)
  | 3 => ("ContactWays$Situation", "now", "I", false)
  | _ => ("ContactWays$Situation", "missed", "I", false)
def tyX7 : Nat → FieldType := fun k => match k with
  | 0 => .object "ContactWays$Bundle"
  | 1 => .array (.object "ContactWays$Bundle")
  | 2 => .int
  | 3 => .int
  | _ => .int
abbrev wsX70 : List Cond := u_ws RX7 TX7 5
theorem nmX7 : ∀ a, a < 5 → ∀ b, b < 5 → a ≠ b → (TX7 a).2.1 ≠ (TX7 b).2.1 := by decide +kernel
theorem tyX7_ok : ∀ k, k < 5 → parseFieldDescriptor (TX7 k).2.2.1 = some (tyX7 k) := by decide +kernel
abbrev cX7_init : ByteArray := prog_9_method_1_code
def yX7_init : MethodName := ⟨RX7, "<init>", "(LContactWays$Network;)V"⟩
abbrev cX7_reset : ByteArray := prog_9_method_2_code
def yX7_reset : MethodName := ⟨RX7, "reset", "()V"⟩
abbrev cX7_copyFrom : ByteArray := prog_9_method_3_code
def yX7_copyFrom : MethodName := ⟨RX7, "copyFrom", "(LContactWays$Situation;)V"⟩
abbrev cX7_hasBundle : ByteArray := prog_9_method_4_code
def yX7_hasBundle : MethodName := ⟨RX7, "hasBundle", "(I)Z"⟩
abbrev cX7_bundleAt : ByteArray := prog_9_method_5_code
def yX7_bundleAt : MethodName := ⟨RX7, "bundleAt", "(I)LContactWays$Bundle;"⟩
abbrev cX7_addBundle : ByteArray := prog_9_method_6_code
def yX7_addBundle : MethodName := ⟨RX7, "addBundle", "()I"⟩
abbrev cX7_isMissed : ByteArray := prog_9_method_7_code
def yX7_isMissed : MethodName := ⟨RX7, "isMissed", "(I)Z"⟩
abbrev cX7_isOpen : ByteArray := prog_9_method_8_code
def yX7_isOpen : MethodName := ⟨RX7, "isOpen", "(I)Z"⟩
abbrev cX7_countStanding : ByteArray := prog_9_method_9_code
def yX7_countStanding : MethodName := ⟨RX7, "countStanding", "(I)I"⟩
abbrev cX7_allStanding : ByteArray := prog_9_method_10_code
def yX7_allStanding : MethodName := ⟨RX7, "allStanding", "(I)I"⟩
abbrev cX7_tickAtGoal : ByteArray := prog_9_method_11_code
def yX7_tickAtGoal : MethodName := ⟨RX7, "tickAtGoal", "(I)I"⟩
abbrev cX7_takerOf : ByteArray := prog_9_method_12_code
def yX7_takerOf : MethodName := ⟨RX7, "takerOf", "(II)I"⟩
abbrev cX7_advance : ByteArray := prog_9_method_13_code
def yX7_advance : MethodName := ⟨RX7, "advance", "(I)V"⟩
abbrev cX7_lose : ByteArray := prog_9_method_14_code
def yX7_lose : MethodName := ⟨RX7, "lose", "(I)I"⟩
abbrev cX7_regain : ByteArray := prog_9_method_15_code
def yX7_regain : MethodName := ⟨RX7, "regain", "(I)I"⟩
def RX8 : String := "ContactWays$Table"
def TX8 : u_T := fun k => match k with
  | 0 => ("ContactWays$Table", "columns", "I", true)
  | 1 => ("ContactWays$Table", "cells", "[I", true)
  | _ => ("ContactWays$Table", "rows", "I", false)
def tyX8 : Nat → FieldType := fun k => match k with
  | 0 => .int
  | 1 => .array .int
  | _ => .int
abbrev wsX80 : List Cond := u_ws RX8 TX8 3
theorem nmX8 : ∀ a, a < 3 → ∀ b, b < 3 → a ≠ b → (TX8 a).2.1 ≠ (TX8 b).2.1 := by decide +kernel
theorem tyX8_ok : ∀ k, k < 3 → parseFieldDescriptor (TX8 k).2.2.1 = some (tyX8 k) := by decide +kernel
abbrev cX8_init : ByteArray := prog_10_method_1_code
def yX8_init : MethodName := ⟨RX8, "<init>", "(II)V"⟩
abbrev cX8_at : ByteArray := prog_10_method_2_code
def yX8_at : MethodName := ⟨RX8, "at", "(II)I"⟩
abbrev cX8_put : ByteArray := prog_10_method_3_code
def yX8_put : MethodName := ⟨RX8, "put", "(III)V"⟩
abbrev cX8_addRow : ByteArray := prog_10_method_4_code
def yX8_addRow : MethodName := ⟨RX8, "addRow", "()I"⟩
abbrev cX8_cut : ByteArray := prog_10_method_5_code
def yX8_cut : MethodName := ⟨RX8, "cut", "(I)V"⟩
abbrev cX8_removeFirstRow : ByteArray := prog_10_method_6_code
def yX8_removeFirstRow : MethodName := ⟨RX8, "removeFirstRow", "()V"⟩
abbrev cX8_copyFrom : ByteArray := prog_10_method_7_code
def yX8_copyFrom : MethodName := ⟨RX8, "copyFrom", "(LContactWays$Table;)V"⟩
abbrev cX8_appendFrom : ByteArray := prog_10_method_8_code
def yX8_appendFrom : MethodName := ⟨RX8, "appendFrom", "(LContactWays$Table;)V"⟩
def RX9 : String := "ContactWays$Text"
def TX9 : u_T := fun k => match k with
  | 0 => ("ContactWays$Text", "bytes", "[I", true)
  | _ => ("ContactWays$Text", "length", "I", false)
def tyX9 : Nat → FieldType := fun k => match k with
  | 0 => .array .int
  | _ => .int
abbrev wsX90 : List Cond := u_ws RX9 TX9 2
theorem nmX9 : ∀ a, a < 2 → ∀ b, b < 2 → a ≠ b → (TX9 a).2.1 ≠ (TX9 b).2.1 := by decide +kernel
theorem tyX9_ok : ∀ k, k < 2 → parseFieldDescriptor (TX9 k).2.2.1 = some (tyX9 k) := by decide +kernel
abbrev cX9_init : ByteArray := prog_11_method_1_code
def yX9_init : MethodName := ⟨RX9, "<init>", "()V"⟩
abbrev cX9_isFull : ByteArray := prog_11_method_2_code
def yX9_isFull : MethodName := ⟨RX9, "isFull", "()Z"⟩
abbrev cX9_append : ByteArray := prog_11_method_3_code
def yX9_append : MethodName := ⟨RX9, "append", "(I)V"⟩
abbrev cX9_empty : ByteArray := prog_11_method_4_code
def yX9_empty : MethodName := ⟨RX9, "empty", "()V"⟩
abbrev cX9_byteAt : ByteArray := prog_11_method_5_code
def yX9_byteAt : MethodName := ⟨RX9, "byteAt", "(I)I"⟩
def RX10 : String := "ContactWays"
def TX10 : u_T := fun k => match k with
  | 0 => ("ContactWays", "text", "LContactWays$Text;", true)
  | 1 => ("ContactWays", "reader", "LContactWays$PlanReader;", true)
  | 2 => ("ContactWays", "network", "LContactWays$Network;", true)
  | 3 => ("ContactWays", "router", "LContactWays$Router;", true)
  | 4 => ("ContactWays", "planner", "LContactWays$Planner;", true)
  | 5 => ("ContactWays", "present", "LContactWays$Situation;", true)
  | 6 => ("ContactWays", "trial", "LContactWays$Situation;", true)
  | 7 => ("ContactWays", "history", "LContactWays$History;", true)
  | 8 => ("ContactWays", "firstImage", "LContactWays$Situation;", true)
  | 9 => ("ContactWays", "secondImage", "LContactWays$Situation;", true)
  | 10 => ("ContactWays", "observations", "LContactWays$Table;", true)
  | _ => ("ContactWays", "savedImages", "I", false)
def tyX10 : Nat → FieldType := fun k => match k with
  | 0 => .object "ContactWays$Text"
  | 1 => .object "ContactWays$PlanReader"
  | 2 => .object "ContactWays$Network"
  | 3 => .object "ContactWays$Router"
  | 4 => .object "ContactWays$Planner"
  | 5 => .object "ContactWays$Situation"
  | 6 => .object "ContactWays$Situation"
  | 7 => .object "ContactWays$History"
  | 8 => .object "ContactWays$Situation"
  | 9 => .object "ContactWays$Situation"
  | 10 => .object "ContactWays$Table"
  | _ => .int
abbrev wsX100 : List Cond := u_ws RX10 TX10 12
theorem nmX10 : ∀ a, a < 12 → ∀ b, b < 12 → a ≠ b → (TX10 a).2.1 ≠ (TX10 b).2.1 := by decide +kernel
theorem tyX10_ok : ∀ k, k < 12 → parseFieldDescriptor (TX10 k).2.2.1 = some (tyX10 k) := by decide +kernel
abbrev cX10_init : ByteArray := prog_1_method_1_code
def yX10_init : MethodName := ⟨RX10, "<init>", "()V"⟩
abbrev cX10_type : ByteArray := prog_1_method_2_code
def yX10_type : MethodName := ⟨RX10, "type", "(I)I"⟩
abbrev cX10_clear : ByteArray := prog_1_method_3_code
def yX10_clear : MethodName := ⟨RX10, "clear", "()I"⟩
abbrev cX10_plan : ByteArray := prog_1_method_4_code
def yX10_plan : MethodName := ⟨RX10, "plan", "()I"⟩
abbrev cX10_contact : ByteArray := prog_1_method_5_code
def yX10_contact : MethodName := ⟨RX10, "contact", "(II)I"⟩
abbrev cX10_sends : ByteArray := prog_1_method_6_code
def yX10_sends : MethodName := ⟨RX10, "sends", "(IIIII)I"⟩
abbrev cX10_drops : ByteArray := prog_1_method_7_code
def yX10_drops : MethodName := ⟨RX10, "drops", "(I)I"⟩
abbrev cX10_passes : ByteArray := prog_1_method_8_code
def yX10_passes : MethodName := ⟨RX10, "passes", "(I)I"⟩
abbrev cX10_misses : ByteArray := prog_1_method_9_code
def yX10_misses : MethodName := ⟨RX10, "misses", "(I)I"⟩
abbrev cX10_finds : ByteArray := prog_1_method_10_code
def yX10_finds : MethodName := ⟨RX10, "finds", "(I)I"⟩
abbrev cX10_undo : ByteArray := prog_1_method_11_code
def yX10_undo : MethodName := ⟨RX10, "undo", "()I"⟩
abbrev cX10_bundle : ByteArray := prog_1_method_12_code
def yX10_bundle : MethodName := ⟨RX10, "bundle", "(II)I"⟩
abbrev cX10_hop : ByteArray := prog_1_method_13_code
def yX10_hop : MethodName := ⟨RX10, "hop", "(III)I"⟩
abbrev cX10_tick : ByteArray := prog_1_method_14_code
def yX10_tick : MethodName := ⟨RX10, "tick", "(II)I"⟩
abbrev cX10_asks : ByteArray := prog_1_method_15_code
def yX10_asks : MethodName := ⟨RX10, "asks", "(IIII)I"⟩
abbrev cX10_largest : ByteArray := prog_1_method_16_code
def yX10_largest : MethodName := ⟨RX10, "largest", "(IIII)I"⟩
abbrev cX10_worst : ByteArray := prog_1_method_17_code
def yX10_worst : MethodName := ⟨RX10, "worst", "()I"⟩
abbrev cX10_sees : ByteArray := prog_1_method_18_code
def yX10_sees : MethodName := ⟨RX10, "sees", "(III)I"⟩
abbrev cX10_forget : ByteArray := prog_1_method_19_code
def yX10_forget : MethodName := ⟨RX10, "forget", "()I"⟩
abbrev cX10_unseen : ByteArray := prog_1_method_20_code
def yX10_unseen : MethodName := ⟨RX10, "unseen", "()I"⟩
abbrev cX10_keep : ByteArray := prog_1_method_21_code
def yX10_keep : MethodName := ⟨RX10, "keep", "(I)I"⟩
abbrev cX10_back : ByteArray := prog_1_method_22_code
def yX10_back : MethodName := ⟨RX10, "back", "(I)I"⟩
abbrev cX10_count : ByteArray := prog_1_method_23_code
def yX10_count : MethodName := ⟨RX10, "count", "(I)I"⟩
abbrev cX10_isWithin : ByteArray := prog_1_method_24_code
def yX10_isWithin : MethodName := ⟨RX10, "isWithin", "(III)Z"⟩
abbrev cX10_isSendable : ByteArray := prog_1_method_25_code
def yX10_isSendable : MethodName := ⟨RX10, "isSendable", "(IIII)Z"⟩
abbrev cX10_predict : ByteArray := prog_1_method_26_code
def yX10_predict : MethodName := ⟨RX10, "predict", "(IIII)I"⟩
abbrev cX10_explainsAll : ByteArray := prog_1_method_27_code
def yX10_explainsAll : MethodName := ⟨RX10, "explainsAll", "(I)Z"⟩
abbrev cX10_imageAt : ByteArray := prog_1_method_28_code
def yX10_imageAt : MethodName := ⟨RX10, "imageAt", "(I)LContactWays$Situation;"⟩
def RX11 : String := "ContactWaysModel"
def TX11 : u_T := fun k => match k with
  | 0 => ("ContactWaysModel", "thrown", "I", false)
  | 1 => ("ContactWaysModel", "nodes", "I", false)
  | 2 => ("ContactWaysModel", "contacts", "I", false)
  | 3 => ("ContactWaysModel", "of", "[I", true)
  | 4 => ("ContactWaysModel", "readNodes", "I", false)
  | 5 => ("ContactWaysModel", "readContacts", "I", false)
  | 6 => ("ContactWaysModel", "read", "[I", true)
  | 7 => ("ContactWaysModel", "s", "[I", true)
  | 8 => ("ContactWaysModel", "undos", "I", false)
  | 9 => ("ContactWaysModel", "past", "[I", true)
  | 10 => ("ContactWaysModel", "kept", "[I", true)
  | 11 => ("ContactWaysModel", "isKept", "[Z", true)
  | 12 => ("ContactWaysModel", "aside", "[I", true)
  | 13 => ("ContactWaysModel", "seen", "I", false)
  | 14 => ("ContactWaysModel", "seenNode", "[I", true)
  | 15 => ("ContactWaysModel", "seenGoal", "[I", true)
  | 16 => ("ContactWaysModel", "seenIs", "[I", true)
  | 17 => ("ContactWaysModel", "letters", "I", false)
  | 18 => ("ContactWaysModel", "text", "[I", true)
  | 19 => ("ContactWaysModel", "next", "I", false)
  | 20 => ("ContactWaysModel", "begin", "I", false)
  | 21 => ("ContactWaysModel", "token", "I", false)
  | 22 => ("ContactWaysModel", "taken", "[Z", true)
  | 23 => ("ContactWaysModel", "first", "[I", true)
  | 24 => ("ContactWaysModel", "wayMany", "I", false)
  | 25 => ("ContactWaysModel", "wayContact", "[I", true)
  | 26 => ("ContactWaysModel", "wayBegin", "[I", true)
  | _ => ("ContactWaysModel", "wayEnd", "I", false)
def tyX11 : Nat → FieldType := fun k => match k with
  | 0 => .int
  | 1 => .int
  | 2 => .int
  | 3 => .array .int
  | 4 => .int
  | 5 => .int
  | 6 => .array .int
  | 7 => .array .int
  | 8 => .int
  | 9 => .array .int
  | 10 => .array .int
  | 11 => .array .boolean
  | 12 => .array .int
  | 13 => .int
  | 14 => .array .int
  | 15 => .array .int
  | 16 => .array .int
  | 17 => .int
  | 18 => .array .int
  | 19 => .int
  | 20 => .int
  | 21 => .int
  | 22 => .array .boolean
  | 23 => .array .int
  | 24 => .int
  | 25 => .array .int
  | 26 => .array .int
  | _ => .int
abbrev wsX110 : List Cond := u_ws RX11 TX11 28
theorem nmX11 : ∀ a, a < 28 → ∀ b, b < 28 → a ≠ b → (TX11 a).2.1 ≠ (TX11 b).2.1 := by decide +kernel
theorem tyX11_ok : ∀ k, k < 28 → parseFieldDescriptor (TX11 k).2.2.1 = some (tyX11 k) := by decide +kernel
abbrev cX11_init : ByteArray := prog_13_method_1_code
def yX11_init : MethodName := ⟨RX11, "<init>", "()V"⟩
abbrev cX11_in : ByteArray := prog_13_method_3_code
def yX11_in : MethodName := ⟨RX11, "in", "(III)Z"⟩
abbrev cX11_isNode : ByteArray := prog_13_method_4_code
def yX11_isNode : MethodName := ⟨RX11, "isNode", "(I)Z"⟩
abbrev cX11_isContact : ByteArray := prog_13_method_5_code
def yX11_isContact : MethodName := ⟨RX11, "isContact", "(I)Z"⟩
abbrev cX11_isBundle : ByteArray := prog_13_method_6_code
def yX11_isBundle : MethodName := ⟨RX11, "isBundle", "(I)Z"⟩
abbrev cX11_isMissed : ByteArray := prog_13_method_7_code
def yX11_isMissed : MethodName := ⟨RX11, "isMissed", "(I)Z"⟩
abbrev cX11_type : ByteArray := prog_13_method_8_code
def yX11_type : MethodName := ⟨RX11, "type", "(I)I"⟩
abbrev cX11_clear : ByteArray := prog_13_method_9_code
def yX11_clear : MethodName := ⟨RX11, "clear", "()I"⟩
abbrev cX11_isFigure : ByteArray := prog_13_method_10_code
def yX11_isFigure : MethodName := ⟨RX11, "isFigure", "(I)Z"⟩
abbrev cX11_takes : ByteArray := prog_13_method_11_code
def yX11_takes : MethodName := ⟨RX11, "takes", "()V"⟩
abbrev cX11_reads : ByteArray := prog_13_method_12_code
def yX11_reads : MethodName := ⟨RX11, "reads", "(III)Z"⟩
abbrev cX11_readsContact : ByteArray := prog_13_method_13_code
def yX11_readsContact : MethodName := ⟨RX11, "readsContact", "()Z"⟩
abbrev cX11_readsNodes : ByteArray := prog_13_method_14_code
def yX11_readsNodes : MethodName := ⟨RX11, "readsNodes", "(I)Z"⟩
abbrev cX11_begins : ByteArray := prog_13_method_15_code
def yX11_begins : MethodName := ⟨RX11, "begins", "()V"⟩
abbrev cX11_becomes : ByteArray := prog_13_method_16_code
def yX11_becomes : MethodName := ⟨RX11, "becomes", "()V"⟩
abbrev cX11_plan : ByteArray := prog_13_method_17_code
def yX11_plan : MethodName := ⟨RX11, "plan", "()I"⟩
abbrev cX11_contact : ByteArray := prog_13_method_18_code
def yX11_contact : MethodName := ⟨RX11, "contact", "(II)I"⟩
abbrev cX11_at : ByteArray := prog_13_method_19_code
def yX11_at : MethodName := ⟨RX11, "at", "(I)I"⟩
abbrev cX11_its : ByteArray := prog_13_method_20_code
def yX11_its : MethodName := ⟨RX11, "its", "(II)I"⟩
abbrev cX11_ticks : ByteArray := prog_13_method_21_code
def yX11_ticks : MethodName := ⟨RX11, "ticks", "(II)I"⟩
abbrev cX11_arrival : ByteArray := prog_13_method_22_code
def yX11_arrival : MethodName := ⟨RX11, "arrival", "(III)I"⟩
abbrev cX11_isOn : ByteArray := prog_13_method_23_code
def yX11_isOn : MethodName := ⟨RX11, "isOn", "(I)Z"⟩
abbrev cX11_leads : ByteArray := prog_13_method_24_code
def yX11_leads : MethodName := ⟨RX11, "leads", "(I)I"⟩
abbrev cX11_stateOf : ByteArray := prog_13_method_25_code
def yX11_stateOf : MethodName := ⟨RX11, "stateOf", "(I)I"⟩
abbrev cX11_countOf : ByteArray := prog_13_method_26_code
def yX11_countOf : MethodName := ⟨RX11, "countOf", "(I)I"⟩
abbrev cX11_marks : ByteArray := prog_13_method_27_code
def yX11_marks : MethodName := ⟨RX11, "marks", "(III)V"⟩
abbrev cX11_laysTaken : ByteArray := prog_13_method_28_code
def yX11_laysTaken : MethodName := ⟨RX11, "laysTaken", "(II)V"⟩
abbrev cX11_beginsAt : ByteArray := prog_13_method_29_code
def yX11_beginsAt : MethodName := ⟨RX11, "beginsAt", "(III)I"⟩
abbrev cX11_endsAt : ByteArray := prog_13_method_30_code
def yX11_endsAt : MethodName := ⟨RX11, "endsAt", "(III)I"⟩
abbrev cX11_laysFirst : ByteArray := prog_13_method_31_code
def yX11_laysFirst : MethodName := ⟨RX11, "laysFirst", "(IIIII)V"⟩
abbrev cX11_leadsThere : ByteArray := prog_13_method_32_code
def yX11_leadsThere : MethodName := ⟨RX11, "leadsThere", "(IIIIII)Z"⟩
abbrev cX11_findsEnd : ByteArray := prog_13_method_33_code
def yX11_findsEnd : MethodName := ⟨RX11, "findsEnd", "(IIIII)Z"⟩
abbrev cX11_findsWay : ByteArray := prog_13_method_34_code
def yX11_findsWay : MethodName := ⟨RX11, "findsWay", "(IIII)V"⟩
abbrev cX11_has : ByteArray := prog_13_method_35_code
def yX11_has : MethodName := ⟨RX11, "has", "(II)Z"⟩
abbrev cX11_givesUp : ByteArray := prog_13_method_36_code
def yX11_givesUp : MethodName := ⟨RX11, "givesUp", "(I)V"⟩
abbrev cX11_meets : ByteArray := prog_13_method_37_code
def yX11_meets : MethodName := ⟨RX11, "meets", "(IIII)Z"⟩
abbrev cX11_pushesOut : ByteArray := prog_13_method_38_code
def yX11_pushesOut : MethodName := ⟨RX11, "pushesOut", "(I)I"⟩
abbrev cX11_plans : ByteArray := prog_13_method_39_code
def yX11_plans : MethodName := ⟨RX11, "plans", "(I)I"⟩
abbrev cX11_plansAll : ByteArray := prog_13_method_40_code
def yX11_plansAll : MethodName := ⟨RX11, "plansAll", "(I)V"⟩
abbrev cX11_copies : ByteArray := prog_13_method_41_code
def yX11_copies : MethodName := ⟨RX11, "copies", "([I[III)V"⟩
abbrev cX11_notes : ByteArray := prog_13_method_42_code
def yX11_notes : MethodName := ⟨RX11, "notes", "()V"⟩
abbrev cX11_sends : ByteArray := prog_13_method_43_code
def yX11_sends : MethodName := ⟨RX11, "sends", "(IIIII)I"⟩
abbrev cX11_lastEnd : ByteArray := prog_13_method_44_code
def yX11_lastEnd : MethodName := ⟨RX11, "lastEnd", "(I)I"⟩
abbrev cX11_drops : ByteArray := prog_13_method_45_code
def yX11_drops : MethodName := ⟨RX11, "drops", "(I)I"⟩
abbrev cX11_moves : ByteArray := prog_13_method_46_code
def yX11_moves : MethodName := ⟨RX11, "moves", "(I)V"⟩
abbrev cX11_passes : ByteArray := prog_13_method_47_code
def yX11_passes : MethodName := ⟨RX11, "passes", "(I)I"⟩
abbrev cX11_hasHopOn : ByteArray := prog_13_method_48_code
def yX11_hasHopOn : MethodName := ⟨RX11, "hasHopOn", "(II)Z"⟩
abbrev cX11_loses : ByteArray := prog_13_method_49_code
def yX11_loses : MethodName := ⟨RX11, "loses", "(I)V"⟩
abbrev cX11_misses : ByteArray := prog_13_method_50_code
def yX11_misses : MethodName := ⟨RX11, "misses", "(I)I"⟩
abbrev cX11_finds : ByteArray := prog_13_method_51_code
def yX11_finds : MethodName := ⟨RX11, "finds", "(I)I"⟩
abbrev cX11_undo : ByteArray := prog_13_method_52_code
def yX11_undo : MethodName := ⟨RX11, "undo", "()I"⟩
abbrev cX11_bundle : ByteArray := prog_13_method_53_code
def yX11_bundle : MethodName := ⟨RX11, "bundle", "(II)I"⟩
abbrev cX11_hop : ByteArray := prog_13_method_54_code
def yX11_hop : MethodName := ⟨RX11, "hop", "(III)I"⟩
abbrev cX11_takesTick : ByteArray := prog_13_method_55_code
def yX11_takesTick : MethodName := ⟨RX11, "takesTick", "(IIII)Z"⟩
abbrev cX11_tick : ByteArray := prog_13_method_56_code
def yX11_tick : MethodName := ⟨RX11, "tick", "(II)I"⟩
abbrev cX11_askedOf : ByteArray := prog_13_method_57_code
def yX11_askedOf : MethodName := ⟨RX11, "askedOf", "(IIIII)I"⟩
abbrev cX11_asks : ByteArray := prog_13_method_58_code
def yX11_asks : MethodName := ⟨RX11, "asks", "(IIII)I"⟩
abbrev cX11_largest : ByteArray := prog_13_method_59_code
def yX11_largest : MethodName := ⟨RX11, "largest", "(IIII)I"⟩
abbrev cX11_worst : ByteArray := prog_13_method_60_code
def yX11_worst : MethodName := ⟨RX11, "worst", "()I"⟩
abbrev cX11_sees : ByteArray := prog_13_method_61_code
def yX11_sees : MethodName := ⟨RX11, "sees", "(III)I"⟩
abbrev cX11_forget : ByteArray := prog_13_method_62_code
def yX11_forget : MethodName := ⟨RX11, "forget", "()I"⟩
abbrev cX11_unseen : ByteArray := prog_13_method_63_code
def yX11_unseen : MethodName := ⟨RX11, "unseen", "()I"⟩
abbrev cX11_keep : ByteArray := prog_13_method_64_code
def yX11_keep : MethodName := ⟨RX11, "keep", "(I)I"⟩
abbrev cX11_back : ByteArray := prog_13_method_65_code
def yX11_back : MethodName := ⟨RX11, "back", "(I)I"⟩
abbrev cX11_count : ByteArray := prog_13_method_66_code
def yX11_count : MethodName := ⟨RX11, "count", "(I)I"⟩
def RJ6 : String := "java/lang/Integer"
def TJ6 : u_T := fun k => match k with
  | _ => ("", "", "", false)
def tyJ6 : Nat → FieldType := fun k => match k with
  | _ => .int
abbrev wsJ60 : List Cond := u_ws RJ6 TJ6 0
theorem nmJ6 : ∀ a, a < 0 → ∀ b, b < 0 → a ≠ b → (TJ6 a).2.1 ≠ (TJ6 b).2.1 := by decide +kernel
theorem tyJ6_ok : ∀ k, k < 0 → parseFieldDescriptor (TJ6 k).2.2.1 = some (tyJ6 k) := by decide +kernel
abbrev cJ6_bitCount_0f7a4 : ByteArray := prog_14_method_49_code
def yJ6_bitCount_0f7a4 : MethodName := ⟨RJ6, "bitCount", "(I)I"⟩
def RJ9 : String := "java/lang/Math"
def TJ9 : u_T := fun k => match k with
  | _ => ("", "", "", false)
def tyJ9 : Nat → FieldType := fun k => match k with
  | _ => .int
abbrev wsJ90 : List Cond := u_ws RJ9 TJ9 0
theorem nmJ9 : ∀ a, a < 0 → ∀ b, b < 0 → a ≠ b → (TJ9 a).2.1 ≠ (TJ9 b).2.1 := by decide +kernel
theorem tyJ9_ok : ∀ k, k < 0 → parseFieldDescriptor (TJ9 k).2.2.1 = some (tyJ9 k) := by decide +kernel
abbrev cJ9_max_7cf53 : ByteArray := prog_15_method_65_code
def yJ9_max_7cf53 : MethodName := ⟨RJ9, "max", "(II)I"⟩
abbrev cJ9_min_7cf53 : ByteArray := prog_15_method_69_code
def yJ9_min_7cf53 : MethodName := ⟨RJ9, "min", "(II)I"⟩
def RL : String := "ContactWaysLaw"
abbrev cL_law : ByteArray := code
def yL_law : MethodName := ⟨RL, "law", "([I)Z"⟩
abbrev vwCl : List vw_C := [(RX0, TX0, 9), (RX1, TX1, 6), (RX2, TX2, 4), (RX3, TX3, 4), (RX4, TX4, 4), (RX5, TX5, 1), (RX6, TX6, 8), (RX7, TX7, 5), (RX8, TX8, 3), (RX9, TX9, 2), (RX10, TX10, 12), (RX11, TX11, 28)]
def SHL : List (Nat × Nat) := [(10, 12), (9, 2), (20, 150), (4, 4), (3, 4), (1, 6), (23, 8), (3, 4), (1, 6), (23, 8), (6, 8), (8, 3), (20, 800), (8, 3), (20, 24), (8, 3), (20, 24), (5, 1), (7, 5), (0, 9), (8, 3), (20, 24), (22, 8), (0, 9), (8, 3), (20, 24), (0, 9), (8, 3), (20, 24), (0, 9), (8, 3), (20, 24), (0, 9), (8, 3), (20, 24), (0, 9), (8, 3), (20, 24), (0, 9), (8, 3), (20, 24), (0, 9), (8, 3), (20, 24), (0, 9), (8, 3), (20, 24), (7, 5), (0, 9), (8, 3), (20, 24), (22, 8), (0, 9), (8, 3), (20, 24), (0, 9), (8, 3), (20, 24), (0, 9), (8, 3), (20, 24), (0, 9), (8, 3), (20, 24), (0, 9), (8, 3), (20, 24), (0, 9), (8, 3), (20, 24), (0, 9), (8, 3), (20, 24), (0, 9), (8, 3), (20, 24), (2, 4), (7, 5), (0, 9), (8, 3), (20, 24), (22, 8), (0, 9), (8, 3), (20, 24), (0, 9), (8, 3), (20, 24), (0, 9), (8, 3), (20, 24), (0, 9), (8, 3), (20, 24), (0, 9), (8, 3), (20, 24), (0, 9), (8, 3), (20, 24), (0, 9), (8, 3), (20, 24), (0, 9), (8, 3), (20, 24), (24, 8), (7, 5), (0, 9), (8, 3), (20, 24), (22, 8), (0, 9), (8, 3), (20, 24), (0, 9), (8, 3), (20, 24), (0, 9), (8, 3), (20, 24), (0, 9), (8, 3), (20, 24), (0, 9), (8, 3), (20, 24), (0, 9), (8, 3), (20, 24), (0, 9), (8, 3), (20, 24), (0, 9), (8, 3), (20, 24), (7, 5), (0, 9), (8, 3), (20, 24), (22, 8), (0, 9), (8, 3), (20, 24), (0, 9), (8, 3), (20, 24), (0, 9), (8, 3), (20, 24), (0, 9), (8, 3), (20, 24), (0, 9), (8, 3), (20, 24), (0, 9), (8, 3), (20, 24), (0, 9), (8, 3), (20, 24), (0, 9), (8, 3), (20, 24), (7, 5), (0, 9), (8, 3), (20, 24), (22, 8), (0, 9), (8, 3), (20, 24), (0, 9), (8, 3), (20, 24), (0, 9), (8, 3), (20, 24), (0, 9), (8, 3), (20, 24), (0, 9), (8, 3), (20, 24), (0, 9), (8, 3), (20, 24), (0, 9), (8, 3), (20, 24), (0, 9), (8, 3), (20, 24), (7, 5), (0, 9), (8, 3), (20, 24), (22, 8), (0, 9), (8, 3), (20, 24), (0, 9), (8, 3), (20, 24), (0, 9), (8, 3), (20, 24), (0, 9), (8, 3), (20, 24), (0, 9), (8, 3), (20, 24), (0, 9), (8, 3), (20, 24), (0, 9), (8, 3), (20, 24), (0, 9), (8, 3), (20, 24), (7, 5), (0, 9), (8, 3), (20, 24), (22, 8), (0, 9), (8, 3), (20, 24), (0, 9), (8, 3), (20, 24), (0, 9), (8, 3), (20, 24), (0, 9), (8, 3), (20, 24), (0, 9), (8, 3), (20, 24), (0, 9), (8, 3), (20, 24), (0, 9), (8, 3), (20, 24), (0, 9), (8, 3), (20, 24), (7, 5), (0, 9), (8, 3), (20, 24), (22, 8), (0, 9), (8, 3), (20, 24), (0, 9), (8, 3), (20, 24), (0, 9), (8, 3), (20, 24), (0, 9), (8, 3), (20, 24), (0, 9), (8, 3), (20, 24), (0, 9), (8, 3), (20, 24), (0, 9), (8, 3), (20, 24), (0, 9), (8, 3), (20, 24), (7, 5), (0, 9), (8, 3), (20, 24), (22, 8), (0, 9), (8, 3), (20, 24), (0, 9), (8, 3), (20, 24), (0, 9), (8, 3), (20, 24), (0, 9), (8, 3), (20, 24), (0, 9), (8, 3), (20, 24), (0, 9), (8, 3), (20, 24), (0, 9), (8, 3), (20, 24), (0, 9), (8, 3), (20, 24), (7, 5), (0, 9), (8, 3), (20, 24), (22, 8), (0, 9), (8, 3), (20, 24), (0, 9), (8, 3), (20, 24), (0, 9), (8, 3), (20, 24), (0, 9), (8, 3), (20, 24), (0, 9), (8, 3), (20, 24), (0, 9), (8, 3), (20, 24), (0, 9), (8, 3), (20, 24), (0, 9), (8, 3), (20, 24), (7, 5), (0, 9), (8, 3), (20, 24), (22, 8), (0, 9), (8, 3), (20, 24), (0, 9), (8, 3), (20, 24), (0, 9), (8, 3), (20, 24), (0, 9), (8, 3), (20, 24), (0, 9), (8, 3), (20, 24), (0, 9), (8, 3), (20, 24), (0, 9), (8, 3), (20, 24), (0, 9), (8, 3), (20, 24), (7, 5), (0, 9), (8, 3), (20, 24), (22, 8), (0, 9), (8, 3), (20, 24), (0, 9), (8, 3), (20, 24), (0, 9), (8, 3), (20, 24), (0, 9), (8, 3), (20, 24), (0, 9), (8, 3), (20, 24), (0, 9), (8, 3), (20, 24), (0, 9), (8, 3), (20, 24), (0, 9), (8, 3), (20, 24), (8, 3), (20, 18), (11, 28), (20, 48), (20, 48), (20, 163), (20, 1304), (20, 326), (21, 2), (20, 163), (20, 6), (20, 6), (20, 6), (20, 150), (21, 800), (20, 36), (20, 5), (20, 5)]
/-- kind and size of the cell at a place of the heap, counted from the start of the law; behind the 415 made by the constructors there are contacts alone -/
def SH (a : Int) : Nat × Nat := if a < 0 then (99, 0) else SHL.getD a.toNat (1, 6)
def tyC (c k : Nat) : FieldType := match c with
  | 0 => tyX0 k
  | 1 => tyX1 k
  | 2 => tyX2 k
  | 3 => tyX3 k
  | 4 => tyX4 k
  | 5 => tyX5 k
  | 6 => tyX6 k
  | 7 => tyX7 k
  | 8 => tyX8 k
  | 9 => tyX9 k
  | 10 => tyX10 k
  | _ => tyX11 k
end
section
-- the abstract heap, the judgement Wa over it, and its first rows
abbrev AV : Type := Int ⊕ Int
abbrev Mem : Type := Int → Int → Int
abbrev inR (n : Int) : Prop := -2147483648 ≤ n ∧ n < 2147483648
def I (n : Int) : Int32 := Int32.ofInt n
def wrap (n : Int) : Int := (n + 2147483648) % 4294967296 - 2147483648
theorem wrap_in (n : Int) : inR (wrap n) := by unfold wrap; constructor <;> omega
theorem wrap_eq {n : Int} (h : inR n) : wrap n = n := by unfold wrap; omega
theorem I_toInt {n : Int} (h : inR n) : (I n).toInt = n := Int32.toInt_ofInt_of_le h.1 h.2
theorem I_wrap (n : Int) : I (wrap n) = I n := by
  apply Int32.toInt_inj.mp
  rw [I_toInt (wrap_in n)]
  unfold I
  rw [Int32.toInt_ofInt]
  show wrap n = n.bmod 4294967296
  unfold wrap Int.bmod
  simp only []
  split <;> omega
theorem I_of (x : Int32) : I x.toInt = x := Int32.ofInt_toInt x
theorem I_inR (x : Int32) : inR x.toInt := ⟨Int32.le_toInt x, Int32.toInt_lt x⟩
theorem I_add (x y : Int) : I (x + y) = I x + I y := Int32.ofInt_add x y
theorem I_sub (x y : Int) : I (x - y) = I x - I y := Int32.ofInt_sub x y
theorem I_mul (x y : Int) : I (x * y) = I x * I y := Int32.ofInt_mul x y
theorem I_lt {x y : Int} (hx : inR x) (hy : inR y) : I x < I y ↔ x < y := by rw [Int32.lt_iff_toInt_lt, I_toInt hx, I_toInt hy]
theorem I_le {x y : Int} (hx : inR x) (hy : inR y) : I x ≤ I y ↔ x ≤ y := by rw [Int32.le_iff_toInt_le, I_toInt hx, I_toInt hy]
theorem I_eq {x y : Int} (hx : inR x) (hy : inR y) : I x = I y ↔ x = y := by rw [← Int32.toInt_inj, I_toInt hx, I_toInt hy]
theorem I_zero : (0 : Int32) = I 0 := rfl
theorem I_clamp {n : Int} (h : inR n) : (I n).toNatClampNeg = n.toNat := Int32.toNatClampNeg_ofInt_of_le h.1 h.2
theorem I_in {i : Int} {n : Nat} (h : inR i) (h0 : 0 ≤ i) (h1 : i < n) : vp_in (I i) n := by
  unfold vp_in
  rw [I_clamp h, I_zero, I_lt h (by constructor <;> omega)]
  omega
/-- a value: an int, or the place of a cell (null if negative) -/
def cv (b0 : Nat) (v : AV) : Value := match v with
  | .inl n => .int (I n)
  | .inr a => if a < 0 then .null else .ref (b0 + a.toNat)
theorem cv_ref {b0 : Nat} {a : Int} (h : 0 ≤ a) : cv b0 (.inr a) = .ref (b0 + a.toNat) := by
  show (if a < 0 then Value.null else Value.ref (b0 + a.toNat)) = _
  rw [if_neg (by omega)]
theorem cv_null {b0 : Nat} {a : Int} (h : a < 0) : cv b0 (.inr a) = .null := by
  show (if a < 0 then Value.null else Value.ref (b0 + a.toNat)) = _
  rw [if_pos h]
theorem cv_cat (b0 : Nat) (v : AV) : (cv b0 v).category = 1 := by
  cases v with
  | inl n => rfl
  | inr a =>
    show (if a < 0 then Value.null else Value.ref (b0 + a.toNat)).category = 1
    split <;> rfl
def okV (v : AV) : Prop := match v with
  | .inl n => inR n
  | .inr _ => True
def okS (st : List AV) : Prop := ∀ v ∈ st, okV v
def okL (L : List (Nat × AV)) : Prop := ∀ q ∈ L, okV q.2
def cvL (b0 : Nat) (L : List (Nat × AV)) : List (Nat × Value) := L.map fun q => (q.1, cv b0 q.2)
theorem okS_cons {v : AV} {st : List AV} (h : okV v) (t : okS st) : okS (v :: st) := fun x hx => by
  rcases List.mem_cons.mp hx with rfl | hx
  · exact h
  · exact t x hx
theorem okS_hd {v : AV} {st : List AV} (h : okS (v :: st)) : okV v := h v List.mem_cons_self
theorem okS_tl {v : AV} {st : List AV} (h : okS (v :: st)) : okS st := fun x hx => h x (List.mem_cons_of_mem _ hx)
def isRefT (t : FieldType) : Bool := match t with
  | .object _ => true
  | .array _ => true
  | _ => false
def av (t : FieldType) (v : Int) : AV := if isRefT t = true then .inr v else .inl v
def okT (t : FieldType) (v : Int) : Prop := match t with
  | .object _ => True
  | .array _ => True
  | .boolean => v = 0 ∨ v = 1
  | _ => inR v
theorem okT_av {t : FieldType} {v : Int} (h : okT t v) : okV (av t v) := by
  cases t <;> first | exact h | trivial | (rcases h with rfl | rfl <;> exact ⟨by decide, by decide⟩)
def ety (k j : Nat) : FieldType := if k < 12 then tyC k j else if k = 20 then .int else if k = 21 then .boolean else .object ""
abbrev GT : Type := Launch × Nat × va_G × (Nat → ClassId) × (Nat → Mem → Prop)
def gl (G : GT) : Launch := G.1
def gb (G : GT) : Nat := G.2.1
def gD (G : GT) : va_G := G.2.2.1
def gA (G : GT) : Nat → ClassId := G.2.2.2.1
def gx (G : GT) : Nat → Mem → Prop := G.2.2.2.2
def ent (cA : Nat → ClassId) (b0 : Nat) (μ : Mem) (i : Nat) : va_E :=
  if (SH i).1 < 12 then .inr ((SH i).1, (List.range (SH i).2).map (fun j => cv b0 (av (tyC (SH i).1 j) (μ i j))))
  else if (SH i).1 < 22 then .inl (cA (SH i).1, (SH i).2, .inl (fun j => I (μ i j)))
  else .inl (cA (SH i).1, (SH i).2, .inr (.inr (.inr (.inr (fun j => if μ i j < 0 then none else some (b0 + (μ i j).toNat))))))
def world (cA : Nat → ClassId) (b0 : Nat) (n : Nat) (μ : Mem) : va_W := (List.range n).map fun i => (b0 + i, ent cA b0 μ i)
theorem world_at {cA : Nat → ClassId} {b0 n i : Nat} {μ : Mem} (h : i < n) : (world cA b0 n μ)[i]? = some (b0 + i, ent cA b0 μ i) := by
  unfold world
  rw [List.getElem?_map, List.getElem?_range h]
  rfl
theorem world_none {cA : Nat → ClassId} {b0 n i : Nat} {μ : Mem} (h : n ≤ i) : (world cA b0 n μ)[i]? = none := by
  unfold world
  rw [List.getElem?_map, List.getElem?_eq_none (by simpa using h)]
  rfl
theorem world_some {cA : Nat → ClassId} {b0 n i : Nat} {μ : Mem} {q : Nat × va_E} (h : (world cA b0 n μ)[i]? = some q) : i < n ∧ q = (b0 + i, ent cA b0 μ i) := by
  by_cases hi : i < n
  · rw [world_at hi] at h
    exact ⟨hi, (Option.some.inj h).symm⟩
  · rw [world_none (by omega)] at h
    cases h
theorem world_D (cA : Nat → ClassId) (b0 n : Nat) (μ : Mem) : va_D (fun q : Nat => b0 ≤ q) (world cA b0 n μ) := by
  refine ⟨fun i j p q hi hj e => ?_, fun k q hk => ?_⟩
  · obtain ⟨-, rfl⟩ := world_some hi
    obtain ⟨-, rfl⟩ := world_some hj
    have e' : b0 + i = b0 + j := e
    omega
  · obtain ⟨-, rfl⟩ := world_some hk
    exact Nat.le_add_right _ _
theorem world_set {cA : Nat → ClassId} {b0 n i : Nat} {μ ν : Mem} {e : va_E} (h1 : ent cA b0 ν i = e) (h2 : ∀ j : Nat, j ≠ i → ent cA b0 ν j = ent cA b0 μ j) : (world cA b0 n μ).set i (b0 + i, e) = world cA b0 n ν := by
  apply List.ext_getElem?
  intro j
  by_cases hj : j < n
  · rw [world_at hj]
    by_cases hji : i = j
    · subst hji
      rw [List.getElem?_set_self (by simpa [world] using hj), h1]
    · rw [List.getElem?_set_ne hji, world_at hj, h2 j (Ne.symm hji)]
  · rw [world_none (by omega)]
    exact List.getElem?_eq_none (by simpa [world] using Nat.le_of_not_lt hj)
def tysG (cA : Nat → ClassId) : List (ClassId × FieldType) := [(cA 20, .int), (cA 21, .boolean), (cA 22, .object "ContactWays$Bundle"), (cA 23, .object "ContactWays$Contact"), (cA 24, .object "ContactWays$Situation")]
/-- what holds of the heap: each cell as the memory says, the numbers in range -/
def AH (G : GT) (n : Nat) (μ : Mem) (H : Heap) : Prop :=
  va_P (gD G) vwCl (world (gA G) (gb G) n μ) H ∧ H.size = gb G + n ∧ (∀ i j : Nat, i < n → j < (SH i).2 → okT (ety (SH i).1 j) (μ i j)) ∧ gx G n μ
def isNest (w : Cond) : Bool := match w with
  | .fieldLinkNest .. => true
  | .methodLinkNest .. => true
  | _ => false
def gT : List Cond := lw_tbl.filter goodWord
def gN : List Cond := lw_tbl.filter isNest
def K0 (G : GT) (U : State) : Prop := va_K (gD G) vwCl (tysG (gA G)) U ∧ (∀ w ∈ gN, va_Nw w U) ∧ va_AO "ContactWays$Bundle" U ∧ va_AO "ContactWays$Contact" U ∧ va_AO "ContactWays$Situation" U
theorem K0_warm {G : GT} {s U : State} (hW : s.WarmedH U.vm) (h : K0 G s) : K0 G U := by
  obtain ⟨h1, h2, h3, h4, h5⟩ := h
  refine ⟨va_K.moved hW.alike h1, fun w hw => ?_, va_AO.moved hW.alike h3, va_AO.moved hW.alike h4, va_AO.moved hW.alike h5⟩
  have hn : isNest w = true := (List.mem_filter.mp hw).2
  have h := h2 w hw
  cases w <;> first | exact va_Nw.warmF hW h | exact va_Nw.warmM hW h | (exact absurd hn (by decide)) | (simp [isNest] at hn)
theorem K0_calling {G : GT} {U : State} (g : JFrame) (mk : MethodId) (a : Array Value) (h : K0 G U) : K0 G (U.calling g mk a) := by
  obtain ⟨h1, h2, h3, h4, h5⟩ := h
  have hv : (U.calling g mk a).vm = U.vm := rfl
  refine ⟨va_K.moved (u := U) (U := U.calling g mk a) (Vm.Alike.refl U.vm) h1, fun w hw => ?_, va_AO.moved (u := U) (U := U.calling g mk a) (Vm.Alike.refl U.vm) h3, va_AO.moved (u := U) (U := U.calling g mk a) (Vm.Alike.refl U.vm) h4, va_AO.moved (u := U) (U := U.calling g mk a) (Vm.Alike.refl U.vm) h5⟩
  have hn : isNest w = true := (List.mem_filter.mp hw).2
  have h := h2 w hw
  cases w <;> first | exact va_tabs rfl hv.symm h | (simp [isNest] at hn)
/-- a method: its name, code, locals, return type, and its room: frames, locals, cells, slots -/
abbrev MD : Type := MethodName × ByteArray × Nat × Option FieldType × Nat × Nat × Nat × Nat
def rmOf (Y : MD) : Room := { frames := Y.2.2.2.2.1, cells := Y.2.2.2.2.2.2.1, slots := Y.2.2.2.2.2.2.2, locals := Y.2.2.2.2.2.1 }
def wsM (Y : MD) : List Cond := Cond.code Y.1 Y.2.1 Y.2.2.1 Y.2.2.2.1 :: gT
/-- the end that is wanted, and what is known of the start beside -/
abbrev ZT : Type := (List Frame → Array Value → State → State → Prop) × (Array Value → State → Prop)
def Cx (G : GT) (Y : MD) (Z : ZT) (p : Program) (s : State) (m : MethodId) (args : Array Value) (meth : Method) (c : Code) : Prop :=
  p.tables.exec = Jvm.exec ∧ c.code = Y.2.1 ∧ c.maxLocals = Y.2.2.1 ∧ meth.sig.returnType = Y.2.2.2.1 ∧ meth.locks = false ∧ (Y.1.name = "<init>" → meth.name = "<init>") ∧ s.vm.findClass Y.1.cls = some m.cls ∧
  (∀ w ∈ gT, w.before args s = true) ∧ K0 G s ∧ gb G ≤ s.heap.size ∧ Z.2 args s
/-- from here, with this memory, locals and stack, the machine comes to its end -/
def Wa (G : GT) (Y : MD) (Z : ZT) (cells slots : Nat) (n : Nat) (μ : Mem) (pc : Nat) (L : List (Nat × AV)) (st : List AV) : Prop :=
  ∀ (p : Program) (e : Env) (s : State) (m : MethodId) (args : Array Value) (below : List Frame) (meth : Method) (c : Code) (H : Heap) (locs : List Loc) (ls : Array Slot),
    Cx G Y Z p s m args meth c → AH G n μ H → va_S (fun q : Nat => gb G ≤ q) s.heap H locs → lv_has ls Y.2.2.1 (cvL (gb G) L) → okL L → okS st →
    W p (gl G) e (rmOf Y) s m args below meth c H locs cells slots (Z.1 below args s) (F0 m pc ls (st.map (cv (gb G))))
section RowsA
variable {G : GT} {Y : MD} {Z : ZT} {c0 s0 n pc : Nat} {μ : Mem} {L : List (Nat × AV)} {st : List AV}
theorem a_iconst {k : Int} (hd : decode Y.2.1 pc = .ok (.iconst k, 1)) (hr : inR k) (w : Wa G Y Z c0 s0 n μ (pc + 1) L (.inl k :: st)) : Wa G Y Z c0 s0 n μ pc L st := by
  intro p e s m args below meth c H locs ls C hA hS hl oL oS
  exact lv_iconst C.1 C.2.1 hd rfl (w p e s m args below meth c H locs ls C hA hS hl oL (okS_cons hr oS))
theorem a_bipush {k : Int} (hd : decode Y.2.1 pc = .ok (.bipush k, 2)) (hr : inR k) (hk : (Int8.ofInt k).toInt32 = I k) (w : Wa G Y Z c0 s0 n μ (pc + 2) L (.inl k :: st)) : Wa G Y Z c0 s0 n μ pc L st := by
  intro p e s m args below meth c H locs ls C hA hS hl oL oS
  exact lv_bipush C.1 C.2.1 hd hk (w p e s m args below meth c H locs ls C hA hS hl oL (okS_cons hr oS))
theorem a_sipush {k : Int} (hd : decode Y.2.1 pc = .ok (.sipush k, 3)) (hr : inR k) (hk : (Int16.ofInt k).toInt32 = I k) (w : Wa G Y Z c0 s0 n μ (pc + 3) L (.inl k :: st)) : Wa G Y Z c0 s0 n μ pc L st := by
  intro p e s m args below meth c H locs ls C hA hS hl oL oS
  exact lv_sipush C.1 C.2.1 hd hk (w p e s m args below meth c H locs ls C hA hS hl oL (okS_cons hr oS))
theorem cvL_at {b0 k i : Nat} {v : AV} {L : List (Nat × AV)} (h : L[k]? = some (i, v)) : (cvL b0 L)[k]? = some (i, cv b0 v) := by
  unfold cvL
  rw [List.getElem?_map, h]
  rfl
theorem okL_at {k i : Nat} {v : AV} {L : List (Nat × AV)} (o : okL L) (h : L[k]? = some (i, v)) : okV v := o (i, v) (List.mem_of_getElem? h)
theorem a_iload_n {q : Fin 4} {k : Nat} {i : Nat} {x : Int} (hd : decode Y.2.1 pc = .ok (.iload_n q, 1)) (hi : (q : Nat) = i) (hk : L[k]? = some (i, .inl x)) (w : Wa G Y Z c0 s0 n μ (pc + 1) L (.inl x :: st)) : Wa G Y Z c0 s0 n μ pc L st := by
  intro p e s m args below meth c H locs ls C hA hS hl oL oS
  exact lv_iload_n C.1 C.2.1 hd hi (lv_at hl k (cvL_at hk)) (w p e s m args below meth c H locs ls C hA hS hl oL (okS_cons (okL_at oL hk) oS))
theorem a_iload {k : Nat} {i : Nat} {x : Int} (hd : decode Y.2.1 pc = .ok (.iload i, 2)) (hk : L[k]? = some (i, .inl x)) (w : Wa G Y Z c0 s0 n μ (pc + 2) L (.inl x :: st)) : Wa G Y Z c0 s0 n μ pc L st := by
  intro p e s m args below meth c H locs ls C hA hS hl oL oS
  exact lv_iload C.1 C.2.1 hd (lv_at hl k (cvL_at hk)) (w p e s m args below meth c H locs ls C hA hS hl oL (okS_cons (okL_at oL hk) oS))
theorem a_aload_n {q : Fin 4} {k : Nat} {i : Nat} {x : Int} (hd : decode Y.2.1 pc = .ok (.aload_n q, 1)) (hi : (q : Nat) = i) (hk : L[k]? = some (i, .inr x)) (w : Wa G Y Z c0 s0 n μ (pc + 1) L (.inr x :: st)) : Wa G Y Z c0 s0 n μ pc L st := by
  intro p e s m args below meth c H locs ls C hA hS hl oL oS
  have w := w p e s m args below meth c H locs ls C hA hS hl oL (okS_cons trivial oS)
  have hl' := lv_at hl k (cvL_at hk)
  rw [List.map_cons] at w
  by_cases hx : x < 0
  · rw [cv_null hx] at hl' w
    exact lv_aload_nN C.1 C.2.1 hd hi hl' w
  · rw [cv_ref (by omega)] at hl' w
    exact lv_aload_n C.1 C.2.1 hd hi hl' w
theorem a_aload {k : Nat} {i : Nat} {x : Int} (hd : decode Y.2.1 pc = .ok (.aload i, 2)) (hk : L[k]? = some (i, .inr x)) (w : Wa G Y Z c0 s0 n μ (pc + 2) L (.inr x :: st)) : Wa G Y Z c0 s0 n μ pc L st := by
  intro p e s m args below meth c H locs ls C hA hS hl oL oS
  have w := w p e s m args below meth c H locs ls C hA hS hl oL (okS_cons trivial oS)
  have hl' := lv_at hl k (cvL_at hk)
  rw [List.map_cons] at w
  by_cases hx : x < 0
  · rw [cv_null hx] at hl' w
    exact lv_aloadN C.1 C.2.1 hd hl' w
  · rw [cv_ref (by omega)] at hl' w
    exact lv_aload C.1 C.2.1 hd hl' w
theorem cvL_filter (b0 i : Nat) (L : List (Nat × AV)) : (cvL b0 L).filter (fun q => !(q.1 == i) && !(q.1 + 1 == i && q.2.category == 2)) = cvL b0 (L.filter (fun q => !(q.1 == i))) := by
  unfold cvL
  rw [List.filter_map]
  congr 1
  apply List.filter_congr
  intro q _
  show (!(q.1 == i) && !(q.1 + 1 == i && (cv b0 q.2).category == 2)) = !(q.1 == i)
  rw [cv_cat]
  simp
theorem okL_put {i : Nat} {v : AV} {L : List (Nat × AV)} (hv : okV v) (o : okL L) : okL ((i, v) :: L.filter (fun q => !(q.1 == i))) := fun q hq => by
  rcases List.mem_cons.mp hq with rfl | hq
  · exact hv
  · exact o q (List.mem_filter.mp hq).1
/-- what a store leaves of the locals -/
abbrev putL (i : Nat) (v : AV) (L : List (Nat × AV)) : List (Nat × AV) := (i, v) :: L.filter (fun q => !(q.1 == i))
theorem a_istore_n {q : Fin 4} {i : Nat} {x : Int} (hd : decode Y.2.1 pc = .ok (.istore_n q, 1)) (hi : (q : Nat) = i) (hn : i < Y.2.2.1) (w : Wa G Y Z c0 s0 n μ (pc + 1) (putL i (.inl x) L) st) : Wa G Y Z c0 s0 n μ pc L (.inl x :: st) := by
  intro p e s m args below meth c H locs ls C hA hS hl oL oS
  exact lv_istore_n (lv' := cvL (gb G) (putL i (.inl x) L)) C.1 C.2.1 hd hi hl hn (by rw [cvL_filter]; rfl) (fun ls' hl' => w p e s m args below meth c H locs ls' C hA hS hl' (okL_put (okS_hd oS) oL) (okS_tl oS))
theorem a_istore {i : Nat} {x : Int} (hd : decode Y.2.1 pc = .ok (.istore i, 2)) (hn : i < Y.2.2.1) (w : Wa G Y Z c0 s0 n μ (pc + 2) (putL i (.inl x) L) st) : Wa G Y Z c0 s0 n μ pc L (.inl x :: st) := by
  intro p e s m args below meth c H locs ls C hA hS hl oL oS
  exact lv_istore (lv' := cvL (gb G) (putL i (.inl x) L)) C.1 C.2.1 hd hl hn (by rw [cvL_filter]; rfl) (fun ls' hl' => w p e s m args below meth c H locs ls' C hA hS hl' (okL_put (okS_hd oS) oL) (okS_tl oS))
theorem a_astore_n {q : Fin 4} {i : Nat} {x : Int} (hd : decode Y.2.1 pc = .ok (.astore_n q, 1)) (hi : (q : Nat) = i) (hn : i < Y.2.2.1) (w : Wa G Y Z c0 s0 n μ (pc + 1) (putL i (.inr x) L) st) : Wa G Y Z c0 s0 n μ pc L (.inr x :: st) := by
  intro p e s m args below meth c H locs ls C hA hS hl oL oS
  rw [List.map_cons]
  by_cases hx : x < 0
  · rw [cv_null hx]
    exact lv_astore_nN (lv' := cvL (gb G) (putL i (.inr x) L)) C.1 C.2.1 hd hi hl hn (by rw [cvL_filter, ← cv_null (b0 := gb G) hx]; rfl) (fun ls' hl' => w p e s m args below meth c H locs ls' C hA hS hl' (okL_put (okS_hd oS) oL) (okS_tl oS))
  · rw [cv_ref (by omega)]
    exact lv_astore_n (lv' := cvL (gb G) (putL i (.inr x) L)) C.1 C.2.1 hd hi hl hn (by rw [cvL_filter, ← cv_ref (b0 := gb G) (a := x) (by omega)]; rfl) (fun ls' hl' => w p e s m args below meth c H locs ls' C hA hS hl' (okL_put (okS_hd oS) oL) (okS_tl oS))
theorem a_astore {i : Nat} {x : Int} (hd : decode Y.2.1 pc = .ok (.astore i, 2)) (hn : i < Y.2.2.1) (w : Wa G Y Z c0 s0 n μ (pc + 2) (putL i (.inr x) L) st) : Wa G Y Z c0 s0 n μ pc L (.inr x :: st) := by
  intro p e s m args below meth c H locs ls C hA hS hl oL oS
  rw [List.map_cons]
  by_cases hx : x < 0
  · rw [cv_null hx]
    exact lv_astoreN (lv' := cvL (gb G) (putL i (.inr x) L)) C.1 C.2.1 hd hl hn (by rw [cvL_filter, ← cv_null (b0 := gb G) hx]; rfl) (fun ls' hl' => w p e s m args below meth c H locs ls' C hA hS hl' (okL_put (okS_hd oS) oL) (okS_tl oS))
  · rw [cv_ref (by omega)]
    exact lv_astore (lv' := cvL (gb G) (putL i (.inr x) L)) C.1 C.2.1 hd hl hn (by rw [cvL_filter, ← cv_ref (b0 := gb G) (a := x) (by omega)]; rfl) (fun ls' hl' => w p e s m args below meth c H locs ls' C hA hS hl' (okL_put (okS_hd oS) oL) (okS_tl oS))
theorem a_iinc {i k : Nat} {d x : Int} (hd : decode Y.2.1 pc = .ok (.iinc i d, 3)) (hk : L[k]? = some (i, .inl x)) (hr : inR (x + d)) (hn : i < Y.2.2.1) (w : Wa G Y Z c0 s0 n μ (pc + 3) (putL i (.inl (x + d)) L) st) : Wa G Y Z c0 s0 n μ pc L st := by
  intro p e s m args below meth c H locs ls C hA hS hl oL oS
  exact lv_iinc (v := I (x + d)) (lv' := cvL (gb G) (putL i (.inl (x + d)) L)) C.1 C.2.1 hd hl (k := k) (cvL_at hk) (by rw [I_add]; rfl) hn (by rw [cvL_filter]; rfl) (fun ls' hl' => w p e s m args below meth c H locs ls' C hA hS hl' (okL_put hr oL) oS)
/-- fewer locals, in another order: by their places -/
theorem a_sub {L' : List (Nat × AV)} (ks : List Nat) (hL : ks.filterMap (fun k => L[k]?) = L') (w : Wa G Y Z c0 s0 n μ pc L' st) : Wa G Y Z c0 s0 n μ pc L st := by
  intro p e s m args below meth c H locs ls C hA hS hl oL oS
  subst hL
  refine w p e s m args below meth c H locs ls C hA hS (lv_sub hl ks ?_) (fun q hq => ?_) oS
  · unfold lv_pick cvL
    rw [List.map_filterMap]
    congr 1
    funext k
    rw [List.getElem?_map]
  · obtain ⟨k, -, hk⟩ := List.mem_filterMap.mp hq
    exact oL q (List.mem_of_getElem? hk)
theorem a_iadd {x y : Int} (hd : decode Y.2.1 pc = .ok (.iadd, 1)) (hr : inR (x + y)) (w : Wa G Y Z c0 s0 n μ (pc + 1) L (.inl (x + y) :: st)) : Wa G Y Z c0 s0 n μ pc L (.inl y :: .inl x :: st) := by
  intro p e s m args below meth c H locs ls C hA hS hl oL oS
  have w := w p e s m args below meth c H locs ls C hA hS hl oL (okS_cons hr (okS_tl (okS_tl oS)))
  refine lv_iadd C.1 C.2.1 hd ?_
  rw [← I_add]
  exact w
theorem a_iaddw {x y : Int} (hd : decode Y.2.1 pc = .ok (.iadd, 1)) (w : Wa G Y Z c0 s0 n μ (pc + 1) L (.inl (wrap (x + y)) :: st)) : Wa G Y Z c0 s0 n μ pc L (.inl y :: .inl x :: st) := by
  intro p e s m args below meth c H locs ls C hA hS hl oL oS
  have w := w p e s m args below meth c H locs ls C hA hS hl oL (okS_cons (wrap_in _) (okS_tl (okS_tl oS)))
  refine lv_iadd C.1 C.2.1 hd ?_
  rw [← I_add, ← I_wrap]
  exact w
theorem a_isub {x y : Int} (hd : decode Y.2.1 pc = .ok (.isub, 1)) (hr : inR (x - y)) (w : Wa G Y Z c0 s0 n μ (pc + 1) L (.inl (x - y) :: st)) : Wa G Y Z c0 s0 n μ pc L (.inl y :: .inl x :: st) := by
  intro p e s m args below meth c H locs ls C hA hS hl oL oS
  have w := w p e s m args below meth c H locs ls C hA hS hl oL (okS_cons hr (okS_tl (okS_tl oS)))
  refine lv_isub C.1 C.2.1 hd ?_
  rw [← I_sub]
  exact w
theorem a_imul {x y : Int} (hd : decode Y.2.1 pc = .ok (.imul, 1)) (hr : inR (x * y)) (w : Wa G Y Z c0 s0 n μ (pc + 1) L (.inl (x * y) :: st)) : Wa G Y Z c0 s0 n μ pc L (.inl y :: .inl x :: st) := by
  intro p e s m args below meth c H locs ls C hA hS hl oL oS
  have w := w p e s m args below meth c H locs ls C hA hS hl oL (okS_cons hr (okS_tl (okS_tl oS)))
  refine lv_imul C.1 C.2.1 hd ?_
  rw [← I_mul]
  exact w
theorem a_imulw {x y : Int} (hd : decode Y.2.1 pc = .ok (.imul, 1)) (w : Wa G Y Z c0 s0 n μ (pc + 1) L (.inl (wrap (x * y)) :: st)) : Wa G Y Z c0 s0 n μ pc L (.inl y :: .inl x :: st) := by
  intro p e s m args below meth c H locs ls C hA hS hl oL oS
  have w := w p e s m args below meth c H locs ls C hA hS hl oL (okS_cons (wrap_in _) (okS_tl (okS_tl oS)))
  refine lv_imul C.1 C.2.1 hd ?_
  rw [← I_mul, ← I_wrap]
  exact w
end RowsA
end
section
-- rows of the judgement Wa: branches, fields, arrays, making, returning, calling
section RowsB
variable {G : GT} {Y : MD} {Z : ZT} {c0 s0 n pc : Nat} {μ : Mem} {L : List (Nat × AV)} {st : List AV}
theorem tgt_eq {a b : Int} (h : a = b) : a = b := h
theorem a_goto {off : Int} {tgt : Nat} (hd : decode Y.2.1 pc = .ok (.goto off, 3)) (ht : (pc : Int) + off = (tgt : Int)) (w : Wa G Y Z c0 s0 n μ tgt L st) : Wa G Y Z c0 s0 n μ pc L st := by
  intro p e s m args below meth c H locs ls C hA hS hl oL oS
  exact lv_goto C.1 C.2.1 hd ht (w p e s m args below meth c H locs ls C hA hS hl oL oS)
theorem zero_in : inR 0 := ⟨by decide, by decide⟩
theorem a_if_eq {x off : Int} {tgt : Nat} (hd : decode Y.2.1 pc = .ok (.ifCond .eq off, 3)) (ht : (pc : Int) + off = (tgt : Int)) (kt : x = 0 → Wa G Y Z c0 s0 n μ tgt L st) (kf : ¬ x = 0 → Wa G Y Z c0 s0 n μ (pc + 3) L st) : Wa G Y Z c0 s0 n μ pc L (.inl x :: st) := by
  intro p e s m args below meth c H locs ls C hA hS hl oL oS
  have hx : inR x := okS_hd oS
  exact lv_if_eq C.1 C.2.1 hd ht (fun h => kt ((I_eq hx zero_in).mp h) p e s m args below meth c H locs ls C hA hS hl oL (okS_tl oS)) (fun h => kf (fun q => h ((I_eq hx zero_in).mpr q)) p e s m args below meth c H locs ls C hA hS hl oL (okS_tl oS))
theorem a_if_ne {x off : Int} {tgt : Nat} (hd : decode Y.2.1 pc = .ok (.ifCond .ne off, 3)) (ht : (pc : Int) + off = (tgt : Int)) (kt : ¬ x = 0 → Wa G Y Z c0 s0 n μ tgt L st) (kf : x = 0 → Wa G Y Z c0 s0 n μ (pc + 3) L st) : Wa G Y Z c0 s0 n μ pc L (.inl x :: st) := by
  intro p e s m args below meth c H locs ls C hA hS hl oL oS
  have hx : inR x := okS_hd oS
  exact lv_if_ne C.1 C.2.1 hd ht (fun h => kt (fun q => h ((I_eq hx zero_in).mpr q)) p e s m args below meth c H locs ls C hA hS hl oL (okS_tl oS)) (fun h => kf ((I_eq hx zero_in).mp h) p e s m args below meth c H locs ls C hA hS hl oL (okS_tl oS))
theorem a_if_lt {x off : Int} {tgt : Nat} (hd : decode Y.2.1 pc = .ok (.ifCond .lt off, 3)) (ht : (pc : Int) + off = (tgt : Int)) (kt : x < 0 → Wa G Y Z c0 s0 n μ tgt L st) (kf : ¬ x < 0 → Wa G Y Z c0 s0 n μ (pc + 3) L st) : Wa G Y Z c0 s0 n μ pc L (.inl x :: st) := by
  intro p e s m args below meth c H locs ls C hA hS hl oL oS
  have hx : inR x := okS_hd oS
  exact lv_if_lt C.1 C.2.1 hd ht (fun h => kt ((I_lt hx zero_in).mp h) p e s m args below meth c H locs ls C hA hS hl oL (okS_tl oS)) (fun h => kf (fun q => h ((I_lt hx zero_in).mpr q)) p e s m args below meth c H locs ls C hA hS hl oL (okS_tl oS))
theorem a_if_ge {x off : Int} {tgt : Nat} (hd : decode Y.2.1 pc = .ok (.ifCond .ge off, 3)) (ht : (pc : Int) + off = (tgt : Int)) (kt : 0 ≤ x → Wa G Y Z c0 s0 n μ tgt L st) (kf : ¬ 0 ≤ x → Wa G Y Z c0 s0 n μ (pc + 3) L st) : Wa G Y Z c0 s0 n μ pc L (.inl x :: st) := by
  intro p e s m args below meth c H locs ls C hA hS hl oL oS
  have hx : inR x := okS_hd oS
  exact lv_if_ge C.1 C.2.1 hd ht (fun h => kt ((I_le zero_in hx).mp h) p e s m args below meth c H locs ls C hA hS hl oL (okS_tl oS)) (fun h => kf (fun q => h ((I_le zero_in hx).mpr q)) p e s m args below meth c H locs ls C hA hS hl oL (okS_tl oS))
theorem a_if_gt {x off : Int} {tgt : Nat} (hd : decode Y.2.1 pc = .ok (.ifCond .gt off, 3)) (ht : (pc : Int) + off = (tgt : Int)) (kt : 0 < x → Wa G Y Z c0 s0 n μ tgt L st) (kf : ¬ 0 < x → Wa G Y Z c0 s0 n μ (pc + 3) L st) : Wa G Y Z c0 s0 n μ pc L (.inl x :: st) := by
  intro p e s m args below meth c H locs ls C hA hS hl oL oS
  have hx : inR x := okS_hd oS
  exact lv_if_gt C.1 C.2.1 hd ht (fun h => kt ((I_lt zero_in hx).mp h) p e s m args below meth c H locs ls C hA hS hl oL (okS_tl oS)) (fun h => kf (fun q => h ((I_lt zero_in hx).mpr q)) p e s m args below meth c H locs ls C hA hS hl oL (okS_tl oS))
theorem a_if_le {x off : Int} {tgt : Nat} (hd : decode Y.2.1 pc = .ok (.ifCond .le off, 3)) (ht : (pc : Int) + off = (tgt : Int)) (kt : x ≤ 0 → Wa G Y Z c0 s0 n μ tgt L st) (kf : ¬ x ≤ 0 → Wa G Y Z c0 s0 n μ (pc + 3) L st) : Wa G Y Z c0 s0 n μ pc L (.inl x :: st) := by
  intro p e s m args below meth c H locs ls C hA hS hl oL oS
  have hx : inR x := okS_hd oS
  exact lv_if_le C.1 C.2.1 hd ht (fun h => kt ((I_le hx zero_in).mp h) p e s m args below meth c H locs ls C hA hS hl oL (okS_tl oS)) (fun h => kf (fun q => h ((I_le hx zero_in).mpr q)) p e s m args below meth c H locs ls C hA hS hl oL (okS_tl oS))
theorem a_icmp_eq {x y off : Int} {tgt : Nat} (hd : decode Y.2.1 pc = .ok (.if_icmp .eq off, 3)) (ht : (pc : Int) + off = (tgt : Int)) (kt : x = y → Wa G Y Z c0 s0 n μ tgt L st) (kf : ¬ x = y → Wa G Y Z c0 s0 n μ (pc + 3) L st) : Wa G Y Z c0 s0 n μ pc L (.inl y :: .inl x :: st) := by
  intro p e s m args below meth c H locs ls C hA hS hl oL oS
  have hy : inR y := okS_hd oS
  have hx : inR x := okS_hd (okS_tl oS)
  have o := okS_tl (okS_tl oS)
  exact lv_icmp_eq C.1 C.2.1 hd ht (fun h => kt ((I_eq hx hy).mp h) p e s m args below meth c H locs ls C hA hS hl oL o) (fun h => kf (fun q => h ((I_eq hx hy).mpr q)) p e s m args below meth c H locs ls C hA hS hl oL o)
theorem a_icmp_ne {x y off : Int} {tgt : Nat} (hd : decode Y.2.1 pc = .ok (.if_icmp .ne off, 3)) (ht : (pc : Int) + off = (tgt : Int)) (kt : ¬ x = y → Wa G Y Z c0 s0 n μ tgt L st) (kf : x = y → Wa G Y Z c0 s0 n μ (pc + 3) L st) : Wa G Y Z c0 s0 n μ pc L (.inl y :: .inl x :: st) := by
  intro p e s m args below meth c H locs ls C hA hS hl oL oS
  have hy : inR y := okS_hd oS
  have hx : inR x := okS_hd (okS_tl oS)
  have o := okS_tl (okS_tl oS)
  exact lv_icmp_ne C.1 C.2.1 hd ht (fun h => kt (fun q => h ((I_eq hx hy).mpr q)) p e s m args below meth c H locs ls C hA hS hl oL o) (fun h => kf ((I_eq hx hy).mp h) p e s m args below meth c H locs ls C hA hS hl oL o)
theorem a_icmp_lt {x y off : Int} {tgt : Nat} (hd : decode Y.2.1 pc = .ok (.if_icmp .lt off, 3)) (ht : (pc : Int) + off = (tgt : Int)) (kt : x < y → Wa G Y Z c0 s0 n μ tgt L st) (kf : ¬ x < y → Wa G Y Z c0 s0 n μ (pc + 3) L st) : Wa G Y Z c0 s0 n μ pc L (.inl y :: .inl x :: st) := by
  intro p e s m args below meth c H locs ls C hA hS hl oL oS
  have hy : inR y := okS_hd oS
  have hx : inR x := okS_hd (okS_tl oS)
  have o := okS_tl (okS_tl oS)
  exact lv_icmp_lt C.1 C.2.1 hd ht (fun h => kt ((I_lt hx hy).mp h) p e s m args below meth c H locs ls C hA hS hl oL o) (fun h => kf (fun q => h ((I_lt hx hy).mpr q)) p e s m args below meth c H locs ls C hA hS hl oL o)
theorem a_icmp_ge {x y off : Int} {tgt : Nat} (hd : decode Y.2.1 pc = .ok (.if_icmp .ge off, 3)) (ht : (pc : Int) + off = (tgt : Int)) (kt : y ≤ x → Wa G Y Z c0 s0 n μ tgt L st) (kf : ¬ y ≤ x → Wa G Y Z c0 s0 n μ (pc + 3) L st) : Wa G Y Z c0 s0 n μ pc L (.inl y :: .inl x :: st) := by
  intro p e s m args below meth c H locs ls C hA hS hl oL oS
  have hy : inR y := okS_hd oS
  have hx : inR x := okS_hd (okS_tl oS)
  have o := okS_tl (okS_tl oS)
  exact lv_icmp_ge C.1 C.2.1 hd ht (fun h => kt ((I_le hy hx).mp h) p e s m args below meth c H locs ls C hA hS hl oL o) (fun h => kf (fun q => h ((I_le hy hx).mpr q)) p e s m args below meth c H locs ls C hA hS hl oL o)
theorem a_icmp_gt {x y off : Int} {tgt : Nat} (hd : decode Y.2.1 pc = .ok (.if_icmp .gt off, 3)) (ht : (pc : Int) + off = (tgt : Int)) (kt : y < x → Wa G Y Z c0 s0 n μ tgt L st) (kf : ¬ y < x → Wa G Y Z c0 s0 n μ (pc + 3) L st) : Wa G Y Z c0 s0 n μ pc L (.inl y :: .inl x :: st) := by
  intro p e s m args below meth c H locs ls C hA hS hl oL oS
  have hy : inR y := okS_hd oS
  have hx : inR x := okS_hd (okS_tl oS)
  have o := okS_tl (okS_tl oS)
  exact lv_icmp_gt C.1 C.2.1 hd ht (fun h => kt ((I_lt hy hx).mp h) p e s m args below meth c H locs ls C hA hS hl oL o) (fun h => kf (fun q => h ((I_lt hy hx).mpr q)) p e s m args below meth c H locs ls C hA hS hl oL o)
theorem a_icmp_le {x y off : Int} {tgt : Nat} (hd : decode Y.2.1 pc = .ok (.if_icmp .le off, 3)) (ht : (pc : Int) + off = (tgt : Int)) (kt : x ≤ y → Wa G Y Z c0 s0 n μ tgt L st) (kf : ¬ x ≤ y → Wa G Y Z c0 s0 n μ (pc + 3) L st) : Wa G Y Z c0 s0 n μ pc L (.inl y :: .inl x :: st) := by
  intro p e s m args below meth c H locs ls C hA hS hl oL oS
  have hy : inR y := okS_hd oS
  have hx : inR x := okS_hd (okS_tl oS)
  have o := okS_tl (okS_tl oS)
  exact lv_icmp_le C.1 C.2.1 hd ht (fun h => kt ((I_le hx hy).mp h) p e s m args below meth c H locs ls C hA hS hl oL o) (fun h => kf (fun q => h ((I_le hx hy).mpr q)) p e s m args below meth c H locs ls C hA hS hl oL o)
theorem a_ifnonnull {x off : Int} {tgt : Nat} (hd : decode Y.2.1 pc = .ok (.ifnonnull off, 3)) (ht : (pc : Int) + off = (tgt : Int)) (kt : ¬ x < 0 → Wa G Y Z c0 s0 n μ tgt L st) (kf : x < 0 → Wa G Y Z c0 s0 n μ (pc + 3) L st) : Wa G Y Z c0 s0 n μ pc L (.inr x :: st) := by
  intro p e s m args below meth c H locs ls C hA hS hl oL oS
  rw [List.map_cons]
  by_cases h : x < 0
  · rw [cv_null h]
    exact lv_ifnonnullN C.1 C.2.1 hd (kf h p e s m args below meth c H locs ls C hA hS hl oL (okS_tl oS))
  · rw [cv_ref (by omega)]
    exact lv_ifnonnull C.1 C.2.1 hd ht (kt h p e s m args below meth c H locs ls C hA hS hl oL (okS_tl oS))
/-- a tableswitch: the way of each number, and the way beside -/
theorem a_table {x dflt lo hi : Int} {offs : Array Int} {len tgt : Nat} (hd : decode Y.2.1 pc = .ok (.tableswitch dflt lo hi offs, len)) (ht : (pc : Int) + dflt = (tgt : Int))
    (kin : lo ≤ x → x ≤ hi → ∃ (off : Int) (t : Nat), offs[(x - lo).toNat]? = some off ∧ (pc : Int) + off = (t : Int) ∧ Wa G Y Z c0 s0 n μ t L st) (kout : (x < lo ∨ hi < x) → Wa G Y Z c0 s0 n μ tgt L st) : Wa G Y Z c0 s0 n μ pc L (.inl x :: st) := by
  intro p e s m args below meth c H locs ls C hA hS hl oL oS
  have hx : inR x := okS_hd oS
  have e := I_toInt hx
  by_cases h : x < lo ∨ hi < x
  · exact lv_tableOut C.1 C.2.1 hd (by rw [e]; exact h) ht (kout h p _ s m args below meth c H locs ls C hA hS hl oL (okS_tl oS))
  · obtain ⟨off, t, h1, h2, w⟩ := kin (by omega) (by omega)
    exact lv_tableIn C.1 C.2.1 hd (by rw [e]; omega) (by rw [e]; omega) (by rw [e]; exact h1) h2 (w p _ s m args below meth c H locs ls C hA hS hl oL (okS_tl oS))
theorem a_dup {v : AV} (hd : decode Y.2.1 pc = .ok (.dup, 1)) (w : Wa G Y Z c0 s0 n μ (pc + 1) L (v :: v :: st)) : Wa G Y Z c0 s0 n μ pc L (v :: st) := by
  intro p e s m args below meth c H locs ls C hA hS hl oL oS
  exact lv_dup C.1 C.2.1 hd (cv_cat _ _) (w p e s m args below meth c H locs ls C hA hS hl oL (okS_cons (okS_hd oS) oS))
theorem a_dup2 {v u : AV} (hd : decode Y.2.1 pc = .ok (.dup2, 1)) (w : Wa G Y Z c0 s0 n μ (pc + 1) L (v :: u :: v :: u :: st)) : Wa G Y Z c0 s0 n μ pc L (v :: u :: st) := by
  intro p e s m args below meth c H locs ls C hA hS hl oL oS
  exact lv_dup2_11 C.1 C.2.1 hd (cv_cat _ _) (cv_cat _ _) (w p e s m args below meth c H locs ls C hA hS hl oL (okS_cons (okS_hd oS) (okS_cons (okS_hd (okS_tl oS)) oS)))
theorem a_ldcw {idx : Nat} {k : Int} (hd : decode Y.2.1 pc = .ok (.ldc_w idx, 3)) (hc : Cond.constant Y.1.cls idx (I k) ∈ gT) (hr : inR k) (w : Wa G Y Z c0 s0 n μ (pc + 3) L (.inl k :: st)) : Wa G Y Z c0 s0 n μ pc L st := by
  intro p e s m args below meth c H locs ls C hA hS hl oL oS
  obtain ⟨C1, C2, C3, C4, C5, C6, C7, C8, C9⟩ := C
  exact lv_ldcw C1 C2 C7 (C8 _ hc) hd (w p e s m args below meth c H locs ls ⟨C1, C2, C3, C4, C5, C6, C7, C8, C9⟩ hA hS hl oL (okS_cons hr oS))
/-- bits, as the ints have them -/
def iAnd (x y : Int) : Int := (I x &&& I y).toInt
def iOr (x y : Int) : Int := (I x ||| I y).toInt
def iXor (x y : Int) : Int := (I x ^^^ I y).toInt
def iShl (x y : Int) : Int := (I x <<< (I y &&& 31)).toInt
def iShr (x y : Int) : Int := (I x >>> (I y &&& 31)).toInt
def iUshr (x y : Int) : Int := ((I x).toUInt32 >>> ((I y).toUInt32 &&& Int32.toUInt32 31)).toInt32.toInt
theorem a_iand {x y : Int} (hd : decode Y.2.1 pc = .ok (.iand, 1)) (w : Wa G Y Z c0 s0 n μ (pc + 1) L (.inl (iAnd x y) :: st)) : Wa G Y Z c0 s0 n μ pc L (.inl y :: .inl x :: st) := by
  intro p e s m args below meth c H locs ls C hA hS hl oL oS
  have w := w p e s m args below meth c H locs ls C hA hS hl oL (okS_cons (I_inR _) (okS_tl (okS_tl oS)))
  refine lv_iand C.1 C.2.1 hd ?_
  rw [← I_of (I x &&& I y)]
  exact w
theorem a_ior {x y : Int} (hd : decode Y.2.1 pc = .ok (.ior, 1)) (w : Wa G Y Z c0 s0 n μ (pc + 1) L (.inl (iOr x y) :: st)) : Wa G Y Z c0 s0 n μ pc L (.inl y :: .inl x :: st) := by
  intro p e s m args below meth c H locs ls C hA hS hl oL oS
  have w := w p e s m args below meth c H locs ls C hA hS hl oL (okS_cons (I_inR _) (okS_tl (okS_tl oS)))
  refine lv_ior C.1 C.2.1 hd ?_
  rw [← I_of (I x ||| I y)]
  exact w
theorem a_ixor {x y : Int} (hd : decode Y.2.1 pc = .ok (.ixor, 1)) (w : Wa G Y Z c0 s0 n μ (pc + 1) L (.inl (iXor x y) :: st)) : Wa G Y Z c0 s0 n μ pc L (.inl y :: .inl x :: st) := by
  intro p e s m args below meth c H locs ls C hA hS hl oL oS
  have w := w p e s m args below meth c H locs ls C hA hS hl oL (okS_cons (I_inR _) (okS_tl (okS_tl oS)))
  refine lv_ixor C.1 C.2.1 hd ?_
  rw [← I_of (I x ^^^ I y)]
  exact w
theorem a_ishl {x y : Int} (hd : decode Y.2.1 pc = .ok (.ishl, 1)) (w : Wa G Y Z c0 s0 n μ (pc + 1) L (.inl (iShl x y) :: st)) : Wa G Y Z c0 s0 n μ pc L (.inl y :: .inl x :: st) := by
  intro p e s m args below meth c H locs ls C hA hS hl oL oS
  have w := w p e s m args below meth c H locs ls C hA hS hl oL (okS_cons (I_inR _) (okS_tl (okS_tl oS)))
  refine lv_ishl C.1 C.2.1 hd ?_
  rw [← I_of (I x <<< (I y &&& 31))]
  exact w
theorem a_ishr {x y : Int} (hd : decode Y.2.1 pc = .ok (.ishr, 1)) (w : Wa G Y Z c0 s0 n μ (pc + 1) L (.inl (iShr x y) :: st)) : Wa G Y Z c0 s0 n μ pc L (.inl y :: .inl x :: st) := by
  intro p e s m args below meth c H locs ls C hA hS hl oL oS
  have w := w p e s m args below meth c H locs ls C hA hS hl oL (okS_cons (I_inR _) (okS_tl (okS_tl oS)))
  refine lv_ishr C.1 C.2.1 hd ?_
  rw [← I_of (I x >>> (I y &&& 31))]
  exact w
theorem a_iushr {x y : Int} (hd : decode Y.2.1 pc = .ok (.iushr, 1)) (w : Wa G Y Z c0 s0 n μ (pc + 1) L (.inl (iUshr x y) :: st)) : Wa G Y Z c0 s0 n μ pc L (.inl y :: .inl x :: st) := by
  intro p e s m args below meth c H locs ls C hA hS hl oL oS
  have w := w p e s m args below meth c H locs ls C hA hS hl oL (okS_cons (I_inR _) (okS_tl (okS_tl oS)))
  exact lv_iushr C.1 C.2.1 hd (I_of _).symm w
/-- division, of what is not negative by what is positive -/
theorem I_div {x y : Int} (hx : inR x) (hy : inR y) (h0 : 0 ≤ x) (h1 : 0 < y) : I x / I y = I (x / y) := by
  have hq : 0 ≤ x / y := Int.ediv_nonneg h0 (by omega)
  have hq2 : x / y ≤ x := Int.ediv_le_self y h0
  apply Int32.toInt_inj.mp
  rw [Int32.toInt_div_of_ne_right, I_toInt hx, I_toInt hy, I_toInt ⟨by omega, by omega⟩, Int.tdiv_eq_ediv_of_nonneg h0]
  intro h
  have := congrArg Int32.toInt h
  rw [I_toInt hy] at this
  have e : (-1 : Int32).toInt = -1 := by decide
  rw [e] at this
  omega
theorem a_idiv {x y : Int} (hd : decode Y.2.1 pc = .ok (.idiv, 1)) (h0 : 0 ≤ x) (h1 : 0 < y) (w : Wa G Y Z c0 s0 n μ (pc + 1) L (.inl (x / y) :: st)) : Wa G Y Z c0 s0 n μ pc L (.inl y :: .inl x :: st) := by
  intro p e s m args below meth c H locs ls C hA hS hl oL oS
  have hy : inR y := okS_hd oS
  have hx : inR x := okS_hd (okS_tl oS)
  have hq : 0 ≤ x / y := Int.ediv_nonneg h0 (by omega)
  have hq2 : x / y ≤ x := Int.ediv_le_self y h0
  have w := w p e s m args below meth c H locs ls C hA hS hl oL (okS_cons ⟨by omega, by omega⟩ (okS_tl (okS_tl oS)))
  refine lv_idiv C.1 C.2.1 hd (fun h => ?_) ?_
  · have := (I_eq hy zero_in).mp h
    omega
  · rw [I_div hx hy h0 h1]
    exact w
theorem a_irem {x y : Int} (hd : decode Y.2.1 pc = .ok (.irem, 1)) (h0 : 0 ≤ x) (h1 : 0 < y) (w : Wa G Y Z c0 s0 n μ (pc + 1) L (.inl (x % y) :: st)) : Wa G Y Z c0 s0 n μ pc L (.inl y :: .inl x :: st) := by
  intro p e s m args below meth c H locs ls C hA hS hl oL oS
  have hy : inR y := okS_hd oS
  have hx : inR x := okS_hd (okS_tl oS)
  have hq : 0 ≤ x % y := Int.emod_nonneg x (by omega)
  have hq2 : x % y < y := Int.emod_lt_of_pos x h1
  have w := w p e s m args below meth c H locs ls C hA hS hl oL (okS_cons ⟨by omega, by omega⟩ (okS_tl (okS_tl oS)))
  refine lv_irem C.1 C.2.1 hd (fun h => ?_) ?_
  · have := (I_eq hy zero_in).mp h
    omega
  · rw [I_div hx hy h0 h1, ← I_mul, ← I_sub, show x - x / y * y = x % y by rw [Int.emod_def, Int.mul_comm]]
    exact w
/-- what the memory is known to keep, for use on the way -/
theorem a_fx (w : gx G n μ → Wa G Y Z c0 s0 n μ pc L st) : Wa G Y Z c0 s0 n μ pc L st := by
  intro p e s m args below meth c H locs ls C hA hS hl oL oS
  exact w hA.2.2.2 p e s m args below meth c H locs ls C hA hS hl oL oS
theorem a_wide {c1 s1 : Nat} (hc : c0 ≤ c1) (hs : s0 ≤ s1) (w : Wa G Y Z c1 s1 n μ pc L st) : Wa G Y Z c0 s0 n μ pc L st := by
  intro p e s m args below meth c H locs ls C hA hS hl oL oS
  exact W.widen hc hs (w p e s m args below meth c H locs ls C hA hS hl oL oS)
end RowsB
end
section
-- rows of the judgement Wa over the memory: fields, arrays, what is made
def up (μ : Mem) (a k v : Int) : Mem := fun x => if x = a then (fun j => if j = k then v else μ a j) else μ x
theorem up_ne {μ : Mem} {a k v x : Int} (h : x ≠ a) : up μ a k v x = μ x := if_neg h
theorem up_at (μ : Mem) (a k v : Int) : up μ a k v a = fun j => if j = k then v else μ a j := if_pos rfl
theorem up_self (μ : Mem) (a k v : Int) : up μ a k v a k = v := by rw [up_at]; exact if_pos rfl
theorem up_oth {μ : Mem} {a k v j : Int} (h : j ≠ k) : up μ a k v a j = μ a j := by rw [up_at]; exact if_neg h
/-- a class by its number: its name, fields and types -/
def ClF (ci : Nat) (C : String) (T : u_T) (N : Nat) : Prop :=
  ci < 12 ∧ vwCl[ci]? = some (C, T, N) ∧ (∀ k, k < N → parseFieldDescriptor (T k).2.2.1 = some (tyC ci k)) ∧ (∀ a, a < N → ∀ b, b < N → a ≠ b → (T a).2.1 ≠ (T b).2.1) ∧ ∀ w ∈ u_ws C T N, w ∈ gT
theorem ent_obj {cA : Nat → ClassId} {b0 i ci N : Nat} {μ : Mem} (h : SH (i : Int) = (ci, N)) (hc : ci < 12) : ent cA b0 μ i = .inr (ci, (List.range N).map (fun j => cv b0 (av (tyC ci j) (μ i j)))) := by
  unfold ent
  rw [h]
  rw [if_pos hc]
theorem ent_num {cA : Nat → ClassId} {b0 i k N : Nat} {μ : Mem} (h : SH (i : Int) = (k, N)) (h1 : 12 ≤ k) (h2 : k < 22) : ent cA b0 μ i = .inl (cA k, N, .inl (fun j => I (μ i j))) := by
  unfold ent
  rw [h]
  rw [if_neg (by simpa using h1), if_pos h2]
theorem ent_ref {cA : Nat → ClassId} {b0 i k N : Nat} {μ : Mem} (h : SH (i : Int) = (k, N)) (h2 : 22 ≤ k) : ent cA b0 μ i = .inl (cA k, N, .inr (.inr (.inr (.inr (fun j => if μ i j < 0 then none else some (b0 + (μ i j).toNat)))))) := by
  unfold ent
  rw [h]
  rw [if_neg (by show ¬ k < 12; omega), if_neg (by simpa using h2)]
theorem ent_up_ne {cA : Nat → ClassId} {b0 i j : Nat} {μ : Mem} {k v : Int} (h : j ≠ i) : ent cA b0 (up μ i k v) j = ent cA b0 μ j := by
  unfold ent
  rw [up_ne (by omega)]
theorem range_map_set {α : Type} (N k : Nat) (f : Nat → α) (v : α) : ((List.range N).map f).set k v = (List.range N).map (fun j => if j = k then v else f j) := by
  apply List.ext_getElem?
  intro j
  by_cases hj : j < N
  · by_cases hk : k = j
    · subst hk
      rw [List.getElem?_set_self (by simpa using hj)]
      simp [hj]
    · rw [List.getElem?_set_ne hk]
      simp [hj, Ne.symm hk]
  · rw [List.getElem?_eq_none (by simpa using Nat.le_of_not_lt hj), List.getElem?_eq_none (by simpa using Nat.le_of_not_lt hj)]
theorem ent_up_obj {cA : Nat → ClassId} {b0 i ci N k : Nat} {μ : Mem} {v : Int} (h : SH (i : Int) = (ci, N)) (hc : ci < 12) :
    ent cA b0 (up μ i k v) i = .inr (ci, ((List.range N).map (fun j => cv b0 (av (tyC ci j) (μ i j)))).set k (cv b0 (av (tyC ci k) v))) := by
  rw [ent_obj h hc, range_map_set]
  congr 2
  apply List.map_congr_left
  intro j _
  by_cases hj : j = k
  · subst hj
    rw [up_self, if_pos rfl]
  · rw [up_oth (by omega), if_neg hj]
theorem ent_up_num {cA : Nat → ClassId} {b0 i k N j : Nat} {μ : Mem} {v : Int} (h : SH (i : Int) = (k, N)) (h1 : 12 ≤ k) (h2 : k < 22) :
    ent cA b0 (up μ i j v) i = .inl (cA k, N, .inl (upd (fun j => I (μ i j)) j (I v))) := by
  rw [ent_num h h1 h2]
  congr 4
  funext q
  unfold upd
  by_cases hq : q = j
  · subst hq
    rw [up_self, if_pos rfl]
  · rw [up_oth (by omega), if_neg hq]
theorem ent_up_ref {cA : Nat → ClassId} {b0 i k N j : Nat} {μ : Mem} {v : Int} (h : SH (i : Int) = (k, N)) (h2 : 22 ≤ k) :
    ent cA b0 (up μ i j v) i = .inl (cA k, N, .inr (.inr (.inr (.inr (va_up (fun j => if μ i j < 0 then none else some (b0 + (μ i j).toNat)) j (if v < 0 then none else some (b0 + v.toNat))))))) := by
  rw [ent_ref h h2]
  congr 7
  funext q
  unfold va_up
  by_cases hq : q = j
  · subst hq
    rw [up_self, if_pos rfl]
  · rw [up_oth (by omega), if_neg hq]
/-- one cell has changed -/
theorem AH_up {G : GT} {n i k : Nat} {μ : Mem} {v : Int} {H H1 : Heap} (hA : AH G n μ H) (hi : i < n) (hat : va_at (gD G) vwCl (gb G + i, ent (gA G) (gb G) (up μ i k v) i) H1) (hz : H1.size = H.size) (oq : ∀ q : Nat, q ≠ gb G + i → H1[q]? = H[q]?)
    (hv : k < (SH (i : Int)).2 → okT (ety (SH (i : Int)).1 k) v) (hx : gx G n (up μ i k v)) : AH G n (up μ i k v) H1 := by
  obtain ⟨h1, h2, h3, h4⟩ := hA
  refine ⟨?_, by rw [hz]; exact h2, ?_, hx⟩
  · have := va_P.set h1 (world_D _ _ _ _) (world_at hi) hat oq
    rwa [world_set rfl (fun j hj => ent_up_ne hj)] at this
  · intro i' j hi' hj
    by_cases e : i' = i
    · subst e
      by_cases ej : j = k
      · subst ej
        rw [up_self]
        exact hv hj
      · rw [up_oth (by omega)]
        exact h3 i' j hi' hj
    · rw [up_ne (by omega)]
      exact h3 i' j hi' hj
section RowsC
variable {G : GT} {Y : MD} {Z : ZT} {c0 s0 n pc : Nat} {μ : Mem} {L : List (Nat × AV)} {st : List AV}
theorem a_toNat {a : Int} (h : 0 ≤ a) : ((a.toNat : Nat) : Int) = a := by omega
theorem a_getf {ci k N idx : Nat} {C : String} {T : u_T} {a : Int} (F : ClF ci C T N) (hd : decode Y.2.1 pc = .ok (.getfield idx, 3)) (hk : k < N) (hT : (T k).1 = C) (hl : Cond.fieldLink Y.1.cls idx C (T k).2.1 (T k).2.2.1 ∈ gT)
    (ho : gx G n μ → 0 ≤ a ∧ a < n ∧ SH a = (ci, N)) (w : okT (tyC ci k) (μ a k) → Wa G Y Z c0 s0 n μ (pc + 3) L (av (tyC ci k) (μ a k) :: st)) : Wa G Y Z c0 s0 n μ pc L (.inr a :: st) := by
  intro p e s m args below meth c H locs ls C0 hA hS hl' oL oS
  obtain ⟨h0, h1, h2⟩ := ho hA.2.2.2
  have en := a_toNat h0
  have hi : a.toNat < n := by omega
  have hsh : SH (a.toNat : Int) = (ci, N) := by rw [en]; exact h2
  have hok := hA.2.2.1 a.toNat k hi (by rw [hsh]; exact hk)
  rw [hsh, en] at hok
  have hok' : okT (tyC ci k) (μ a k) := by
    have : ety ci k = tyC ci k := if_pos F.1
    rw [this] at hok
    exact hok
  have w := w hok' p e s m args below meth c H locs ls C0 hA hS hl' oL (okS_cons (okT_av hok') (okS_tl oS))
  obtain ⟨C1, C2, C3, C4, C5, C6, C7, C8, C9⟩ := C0
  have he := world_at (cA := gA G) (b0 := gb G) (μ := μ) hi
  rw [ent_obj hsh F.1] at he
  rw [List.map_cons, cv_ref h0]
  refine va_get C1 C2 C8 F.2.2.2.2 C7 C9.1.1 hA.1 a.toNat he F.2.1 k hk (C8 _ hl) (fun x hx => by rw [hT] at hx; exact hx) (v := cv (gb G) (av (tyC ci k) (μ a k))) ?_ hd w
  rw [List.getElem?_map, List.getElem?_range hk]
  simp only [Option.map_some]
  rw [en]
theorem a_getfN {ci k N idx : Nat} {C host : String} {T : u_T} {a : Int} (F : ClF ci C T N) (hd : decode Y.2.1 pc = .ok (.getfield idx, 3)) (hk : k < N) (hT : (T k).1 = C) (hl : Cond.fieldLinkNest Y.1.cls idx C (T k).2.1 (T k).2.2.1 host ∈ gN)
    (ho : gx G n μ → 0 ≤ a ∧ a < n ∧ SH a = (ci, N)) (w : okT (tyC ci k) (μ a k) → Wa G Y Z c0 s0 n μ (pc + 3) L (av (tyC ci k) (μ a k) :: st)) : Wa G Y Z c0 s0 n μ pc L (.inr a :: st) := by
  intro p e s m args below meth c H locs ls C0 hA hS hl' oL oS
  obtain ⟨h0, h1, h2⟩ := ho hA.2.2.2
  have en := a_toNat h0
  have hi : a.toNat < n := by omega
  have hsh : SH (a.toNat : Int) = (ci, N) := by rw [en]; exact h2
  have hok := hA.2.2.1 a.toNat k hi (by rw [hsh]; exact hk)
  rw [hsh, en] at hok
  have hok' : okT (tyC ci k) (μ a k) := by
    have : ety ci k = tyC ci k := if_pos F.1
    rw [this] at hok
    exact hok
  have w := w hok' p e s m args below meth c H locs ls C0 hA hS hl' oL (okS_cons (okT_av hok') (okS_tl oS))
  obtain ⟨C1, C2, C3, C4, C5, C6, C7, C8, C9⟩ := C0
  have he := world_at (cA := gA G) (b0 := gb G) (μ := μ) hi
  rw [ent_obj hsh F.1] at he
  rw [List.map_cons, cv_ref h0]
  refine va_getN C1 C2 C8 F.2.2.2.2 C7 C9.1.1 hA.1 a.toNat he F.2.1 k hk (va_Nw.use rfl (C9.1.2.1 _ hl)) (fun x hx => by rw [hT] at hx; exact hx) (v := cv (gb G) (av (tyC ci k) (μ a k))) ?_ hd w
  rw [List.getElem?_map, List.getElem?_range hk]
  simp only [Option.map_some]
  rw [en]
theorem av_narrow {t : FieldType} {v : Int} {b0 : Nat} (hs : t ≠ .byte ∧ t ≠ .char ∧ t ≠ .short ∧ t ≠ .long ∧ t ≠ .float ∧ t ≠ .double) (h : okT t v) : narrow t (cv b0 (av t v)) = cv b0 (av t v) ∧ fits t (cv b0 (av t v)) = true := by
  obtain ⟨h1, h2, h3, h4, h5, h6⟩ := hs
  cases t with
  | int => exact ⟨rfl, rfl⟩
  | boolean => rcases h with rfl | rfl <;> exact ⟨rfl, rfl⟩
  | object _ =>
    show narrow _ (cv b0 (.inr v)) = cv b0 (.inr v) ∧ fits _ (cv b0 (.inr v)) = true
    by_cases hv : v < 0
    · rw [cv_null hv]; exact ⟨rfl, rfl⟩
    · rw [cv_ref (by omega)]; exact ⟨rfl, rfl⟩
  | array _ =>
    show narrow _ (cv b0 (.inr v)) = cv b0 (.inr v) ∧ fits _ (cv b0 (.inr v)) = true
    by_cases hv : v < 0
    · rw [cv_null hv]; exact ⟨rfl, rfl⟩
    · rw [cv_ref (by omega)]; exact ⟨rfl, rfl⟩
  | byte => exact absurd rfl h1
  | char => exact absurd rfl h2
  | short => exact absurd rfl h3
  | long => exact absurd rfl h4
  | float => exact absurd rfl h5
  | double => exact absurd rfl h6
def smallT (t : FieldType) : Prop := t ≠ .byte ∧ t ≠ .char ∧ t ≠ .short ∧ t ≠ .long ∧ t ≠ .float ∧ t ≠ .double
/-- the cell of an object behind a store -/
theorem obj_set {D : va_G} {cA : Nat → ClassId} {b0 i ci N k : Nat} {C : String} {T : u_T} {μ : Mem} {v : Int} {H1 : Heap} {cell : Cell} (hc : vwCl[ci]? = some (C, T, N)) (hci : ci < 12) (hsh : SH (i : Int) = (ci, N)) (hk : k < N)
    (e1 : H1[b0 + i]? = some (cell.setSlot (D.2 ci k) (cv b0 (av (tyC ci k) v)))) (q2 : cell.cls = D.1 ci) (q3 : cell.vm = .none)
    (q4 : ∀ j, j < N → cell.slots[D.2 ci j]? = some (vp_V ((List.range N).map (fun j => cv b0 (av (tyC ci j) (μ i j)))) j)) (hap : ∀ x y, x < N → y < N → x ≠ y → D.2 ci x ≠ D.2 ci y) : va_at D vwCl (b0 + i, ent cA b0 (up μ i k v) i) H1 := by
  rw [ent_up_obj hsh hci]
  refine ⟨_, hc, t_OB.to (V := updV (vp_V ((List.range N).map (fun j => cv b0 (av (tyC ci j) (μ i j))))) k (cv b0 (av (tyC ci k) v))) ⟨_, e1, q2, q3, t_set q4 hap hk _⟩ (fun j _ => vp_updV_set (by simpa using hk) _ j)⟩
theorem a_putf {ci k N idx : Nat} {C : String} {T : u_T} {a : Int} {v : Int} (F : ClF ci C T N) (hd : decode Y.2.1 pc = .ok (.putfield idx, 3)) (hk : k < N) (hT : (T k).1 = C) (hfin : (T k).2.2.2 = false) (hty : smallT (tyC ci k)) (hl : Cond.fieldLink Y.1.cls idx C (T k).2.1 (T k).2.2.1 ∈ gT)
    (ho : gx G n μ → 0 ≤ a ∧ a < n ∧ SH a = (ci, N)) (hv : okV (av (tyC ci k) v) → okT (tyC ci k) v) (hx : gx G n μ → gx G n (up μ a k v)) (w : Wa G Y Z c0 s0 n (up μ a k v) (pc + 3) L st) : Wa G Y Z c0 s0 n μ pc L (av (tyC ci k) v :: .inr a :: st) := by
  intro p e s m args below meth c H locs ls C0 hA hS hl' oL oS
  obtain ⟨h0, h1, h2⟩ := ho hA.2.2.2
  have hv := hv (okS_hd oS)
  have en := a_toNat h0
  have hi : a.toNat < n := by omega
  have hsh : SH (a.toNat : Int) = (ci, N) := by rw [en]; exact h2
  obtain ⟨C1, C2, C3, C4, C5, C6, C7, C8, C9⟩ := id C0
  have he := world_at (cA := gA G) (b0 := gb G) (μ := μ) hi
  rw [ent_obj hsh F.1] at he
  have hap := va_apart (own := Y.1.cls) C8 F.2.2.2.2 (tyC ci) F.2.2.1 F.2.2.2.1 C9.1.1 F.2.1
  obtain ⟨r, g1, cell, q1, q2, q3, q4⟩ := hA.1 a.toNat _ he
  have hr : r = (C, T, N) := Option.some.inj (g1.symm.trans F.2.1)
  subst hr
  obtain ⟨hSl, hfc, kC, hkC, hkind⟩ := C9.1.1.1 ci _ F.2.1
  obtain ⟨cf, kf, fi, f, hif, hsl⟩ := hSl k hk
  have hlay := C8 _ (F.2.2.2.2 _ (u_in_lay hk))
  unfold u_lay at hlay
  rw [if_neg (by rw [hfin]; decide)] at hlay
  have hst := (u_facts hfc hkC (u_lays C8 F.2.2.2.2 hk) hif).1
  have hn := av_narrow (b0 := gb G) hty hv
  have h6 := u_store hfc hkC hkind hlay hif (F.2.2.1 k hk) hn.1 hn.2
  have hif' : s.fieldFound? C (T k).2.1 (T k).2.2.1 = some (cf, kf, fi, f) := by rw [← hT]; exact hif
  have hlk := C8 _ hl
  rw [List.map_cons, List.map_cons, cv_ref h0]
  refine W.putK C1 C2 (f := f) (ref := C) ⟨C7, hlk, ⟨_, _, _, hif'⟩, hst⟩ (by rw [q2]; exact h6) q1 q3 (by rw [hsl]; exact k2_hasslot (q4 k hk)) rfl rfl hd fun H' e1 e2 e3 => ?_
  have hA' : AH G n (up μ a k v) H' := by
    rw [← en]
    refine AH_up hA hi (obj_set F.2.1 F.1 hsh hk (cell := cell) (by rw [← hsl]; exact e1) q2 q3 q4 hap) e2 e3 (fun _ => ?_) (by rw [en]; exact hx hA.2.2.2)
    have : ety ci k = tyC ci k := if_pos F.1
    rw [hsh, this]
    exact hv
  exact w p e s m args below meth c H' _ ls C0 hA' (hS.put e2 e3 (Nat.le_add_right _ _)) hl' oL (okS_tl (okS_tl oS))
theorem a_putfN {ci k N idx : Nat} {C host : String} {T : u_T} {a : Int} {v : Int} (F : ClF ci C T N) (hd : decode Y.2.1 pc = .ok (.putfield idx, 3)) (hk : k < N) (hT : (T k).1 = C) (hfin : (T k).2.2.2 = false) (hty : smallT (tyC ci k)) (hl : Cond.fieldLinkNest Y.1.cls idx C (T k).2.1 (T k).2.2.1 host ∈ gN)
    (ho : gx G n μ → 0 ≤ a ∧ a < n ∧ SH a = (ci, N)) (hv : okV (av (tyC ci k) v) → okT (tyC ci k) v) (hx : gx G n μ → gx G n (up μ a k v)) (w : Wa G Y Z c0 s0 n (up μ a k v) (pc + 3) L st) : Wa G Y Z c0 s0 n μ pc L (av (tyC ci k) v :: .inr a :: st) := by
  intro p e s m args below meth c H locs ls C0 hA hS hl' oL oS
  obtain ⟨h0, h1, h2⟩ := ho hA.2.2.2
  have hv := hv (okS_hd oS)
  have en := a_toNat h0
  have hi : a.toNat < n := by omega
  have hsh : SH (a.toNat : Int) = (ci, N) := by rw [en]; exact h2
  obtain ⟨C1, C2, C3, C4, C5, C6, C7, C8, C9⟩ := id C0
  have he := world_at (cA := gA G) (b0 := gb G) (μ := μ) hi
  rw [ent_obj hsh F.1] at he
  have hap := va_apart (own := Y.1.cls) C8 F.2.2.2.2 (tyC ci) F.2.2.1 F.2.2.2.1 C9.1.1 F.2.1
  obtain ⟨r, g1, cell, q1, q2, q3, q4⟩ := hA.1 a.toNat _ he
  have hr : r = (C, T, N) := Option.some.inj (g1.symm.trans F.2.1)
  subst hr
  obtain ⟨hSl, hfc, kC, hkC, hkind⟩ := C9.1.1.1 ci _ F.2.1
  obtain ⟨cf, kf, fi, f, hif, hsl⟩ := hSl k hk
  have hlay := C8 _ (F.2.2.2.2 _ (u_in_lay hk))
  unfold u_lay at hlay
  rw [if_neg (by rw [hfin]; decide)] at hlay
  have hst := (u_facts hfc hkC (u_lays C8 F.2.2.2.2 hk) hif).1
  have hn := av_narrow (b0 := gb G) hty hv
  have h6 := u_store hfc hkC hkind hlay hif (F.2.2.1 k hk) hn.1 hn.2
  have hif' : s.fieldFound? C (T k).2.1 (T k).2.2.1 = some (cf, kf, fi, f) := by rw [← hT]; exact hif
  have hlk : (Cond.fieldLinkNest Y.1.cls idx C (T k).2.1 (T k).2.2.1 host).before args s = true := va_Nw.use rfl (C9.1.2.1 _ hl)
  rw [List.map_cons, List.map_cons, cv_ref h0]
  refine va_WputK C1 C2 (f := f) (ref := C) C7 hlk hif' hst (by rw [q2]; exact h6) q1 q3 (by rw [hsl]; exact k2_hasslot (q4 k hk)) rfl rfl hd fun H' e1 e2 e3 => ?_
  have hA' : AH G n (up μ a k v) H' := by
    rw [← en]
    refine AH_up hA hi (obj_set F.2.1 F.1 hsh hk (cell := cell) (by rw [← hsl]; exact e1) q2 q3 q4 hap) e2 e3 (fun _ => ?_) (by rw [en]; exact hx hA.2.2.2)
    have : ety ci k = tyC ci k := if_pos F.1
    rw [hsh, this]
    exact hv
  exact w p e s m args below meth c H' _ ls C0 hA' (hS.put e2 e3 (Nat.le_add_right _ _)) hl' oL (okS_tl (okS_tl oS))
/-- a final field, in the constructor -/
theorem a_putF {ci k N idx : Nat} {C : String} {T : u_T} {a : Int} {v : Int} (F : ClF ci C T N) (hd : decode Y.2.1 pc = .ok (.putfield idx, 3)) (hk : k < N) (hT : (T k).1 = C) (hC : C = Y.1.cls) (hini : Y.1.name = "<init>") (hfin : (T k).2.2.2 = true) (hty : smallT (tyC ci k)) (hl : Cond.fieldLink Y.1.cls idx C (T k).2.1 (T k).2.2.1 ∈ gT)
    (ho : gx G n μ → 0 ≤ a ∧ a < n ∧ SH a = (ci, N)) (hv : okV (av (tyC ci k) v) → okT (tyC ci k) v) (hx : gx G n μ → gx G n (up μ a k v)) (w : Wa G Y Z c0 s0 n (up μ a k v) (pc + 3) L st) : Wa G Y Z c0 s0 n μ pc L (av (tyC ci k) v :: .inr a :: st) := by
  intro p e s m args below meth c H locs ls C0 hA hS hl' oL oS
  obtain ⟨h0, h1, h2⟩ := ho hA.2.2.2
  have hv := hv (okS_hd oS)
  have en := a_toNat h0
  have hi : a.toNat < n := by omega
  have hsh : SH (a.toNat : Int) = (ci, N) := by rw [en]; exact h2
  obtain ⟨C1, C2, C3, C4, C5, C6, C7, C8, C9⟩ := id C0
  have he := world_at (cA := gA G) (b0 := gb G) (μ := μ) hi
  rw [ent_obj hsh F.1] at he
  have hap := va_apart (own := Y.1.cls) C8 F.2.2.2.2 (tyC ci) F.2.2.1 F.2.2.2.1 C9.1.1 F.2.1
  obtain ⟨r, g1, cell, q1, q2, q3, q4⟩ := hA.1 a.toNat _ he
  have hr : r = (C, T, N) := Option.some.inj (g1.symm.trans F.2.1)
  subst hr
  obtain ⟨hSl, hfc, kC, hkC, hkind⟩ := C9.1.1.1 ci _ F.2.1
  obtain ⟨cf, kf, fi, f, hif, hsl⟩ := hSl k hk
  have hlay := C8 _ (F.2.2.2.2 _ (u_in_lay hk))
  unfold u_lay at hlay
  rw [if_pos hfin] at hlay
  have hst := (u_facts hfc hkC (u_lays C8 F.2.2.2.2 hk) hif).1
  have hcf : m.cls = cf := by
    obtain ⟨_, _, c', _, _, _, -, -, hf', -, -, -, hown2, -⟩ := Cond.laysFinal_spec hlay
    have e1 : c' = cf := by have := hif.symm.trans hf'; simp at this; exact this.1.symm
    rw [hT, hC] at hown2
    rw [← e1]; exact Option.some.inj (C7.symm.trans hown2)
  have hn := av_narrow (b0 := gb G) hty hv
  have h6 := u_fits hfc hkC hkind (Or.inr hlay) hif (F.2.2.1 k hk) hn.1 hn.2
  have hif' : s.fieldFound? C (T k).2.1 (T k).2.2.1 = some (cf, kf, fi, f) := by rw [← hT]; exact hif
  have hlk := C8 _ hl
  rw [List.map_cons, List.map_cons, cv_ref h0]
  refine W.putFinK C1 C2 (ref := C) C7 hlk hif' hst hcf (C6 hini) (by rw [q2]; exact h6) q1 q3 (by rw [hsl]; exact k2_hasslot (q4 k hk)) rfl rfl hd fun H' e1 e2 e3 => ?_
  have hA' : AH G n (up μ a k v) H' := by
    rw [← en]
    refine AH_up hA hi (obj_set F.2.1 F.1 hsh hk (cell := cell) (by rw [← hsl]; exact e1) q2 q3 q4 hap) e2 e3 (fun _ => ?_) (by rw [en]; exact hx hA.2.2.2)
    have : ety ci k = tyC ci k := if_pos F.1
    rw [hsh, this]
    exact hv
  exact w p e s m args below meth c H' _ ls C0 hA' (hS.put e2 e3 (Nat.le_add_right _ _)) hl' oL (okS_tl (okS_tl oS))
end RowsC
end
section
-- rows of the judgement Wa: arrays, making, the library's own, ends, entries
/-- a new cell at the end -/
def nw (μ : Mem) (a : Int) (d : Int → Int) : Mem := fun x => if x = a then d else μ x
theorem nw_ne {μ : Mem} {a x : Int} {d : Int → Int} (h : x ≠ a) : nw μ a d x = μ x := if_neg h
theorem nw_at (μ : Mem) (a : Int) (d : Int → Int) : nw μ a d a = d := if_pos rfl
theorem ent_nw_ne {cA : Nat → ClassId} {b0 i j : Nat} {μ : Mem} {d : Int → Int} (h : j ≠ i) : ent cA b0 (nw μ i d) j = ent cA b0 μ j := by
  unfold ent
  rw [nw_ne (by omega)]
theorem world_nw {cA : Nat → ClassId} {b0 n : Nat} {μ : Mem} {d : Int → Int} : world cA b0 (n + 1) (nw μ n d) = world cA b0 n μ ++ [(b0 + n, ent cA b0 (nw μ n d) n)] := by
  unfold world
  rw [List.range_succ, List.map_append]
  congr 1
  apply List.map_congr_left
  intro j hj
  have hj := List.mem_range.mp hj
  rw [ent_nw_ne (by omega)]
theorem AH_nw {G : GT} {n : Nat} {μ : Mem} {d : Int → Int} {H H1 : Heap} (hA : AH G n μ H) (hat : va_at (gD G) vwCl (gb G + n, ent (gA G) (gb G) (nw μ n d) n) H1) (hz : H1.size = H.size + 1) (oq : ∀ q : Nat, q < H.size → H1[q]? = H[q]?)
    (hv : ∀ j : Nat, j < (SH (n : Int)).2 → okT (ety (SH (n : Int)).1 j) (d j)) (hx : gx G (n + 1) (nw μ n d)) : AH G (n + 1) (nw μ n d) H1 := by
  obtain ⟨h1, h2, h3, h4⟩ := hA
  refine ⟨?_, by rw [hz, h2]; omega, ?_, hx⟩
  · rw [world_nw]
    refine (h1.kept (fun k q hq => oq q.1 ((h1 k q hq).lt))).app (fun k q hk => ?_)
    have hz : k < 1 := (List.getElem?_eq_some_iff.mp hk).1
    rw [show k = 0 by omega] at hk
    cases hk
    exact hat
  · intro i j hi hj
    by_cases e : i = n
    · subst e
      rw [nw_at]
      exact hv j hj
    · rw [nw_ne (by omega)]
      exact h3 i j (by omega) hj
def zeroD : Int → Int := fun _ => 0
def nullD : Int → Int := fun _ => -1
def objD (ci : Nat) : Int → Int := fun j => if isRefT (tyC ci j.toNat) = true then -1 else 0
section RowsD
variable {G : GT} {Y : MD} {Z : ZT} {c0 s0 n pc : Nat} {μ : Mem} {L : List (Nat × AV)} {st : List AV}
theorem a_iaload {N : Nat} {a i : Int} (hd : decode Y.2.1 pc = .ok (.iaload, 1)) (ho : gx G n μ → 0 ≤ a ∧ a < n ∧ SH a = (20, N)) (i0 : 0 ≤ i) (i1 : i < N) (w : Wa G Y Z c0 s0 n μ (pc + 1) L (.inl (μ a i) :: st)) : Wa G Y Z c0 s0 n μ pc L (.inl i :: .inr a :: st) := by
  intro p e s m args below meth c H locs ls C0 hA hS hl oL oS
  obtain ⟨h0, h1, h2⟩ := ho hA.2.2.2
  have en := a_toNat h0
  have ei := a_toNat i0
  have hi : a.toNat < n := by omega
  have hsh : SH (a.toNat : Int) = (20, N) := by rw [en]; exact h2
  have hri : inR i := okS_hd oS
  have hok := hA.2.2.1 a.toNat i.toNat hi (by rw [hsh]; show i.toNat < N; omega)
  rw [hsh, en, ei] at hok
  have w := w p e s m args below meth c H locs ls C0 hA hS hl oL (okS_cons hok (okS_tl (okS_tl oS)))
  have he := world_at (cA := gA G) (b0 := gb G) (μ := μ) hi
  rw [ent_num hsh (by decide) (by decide)] at he
  rw [List.map_cons, List.map_cons, cv_ref h0]
  refine va_iald C0.1 C0.2.1 C0.2.2.2.2.2.2.2.2.1.1 hA.1 a.toNat 0 he rfl (I_in hri i0 i1) hd ?_
  rw [I_clamp hri, en, ei]
  exact w
theorem a_zaload {N : Nat} {a i : Int} (hd : decode Y.2.1 pc = .ok (.baload, 1)) (ho : gx G n μ → 0 ≤ a ∧ a < n ∧ SH a = (21, N)) (i0 : 0 ≤ i) (i1 : i < N) (w : (μ a i = 0 ∨ μ a i = 1) → Wa G Y Z c0 s0 n μ (pc + 1) L (.inl (μ a i) :: st)) : Wa G Y Z c0 s0 n μ pc L (.inl i :: .inr a :: st) := by
  intro p e s m args below meth c H locs ls C0 hA hS hl oL oS
  obtain ⟨h0, h1, h2⟩ := ho hA.2.2.2
  have en := a_toNat h0
  have ei := a_toNat i0
  have hi : a.toNat < n := by omega
  have hsh : SH (a.toNat : Int) = (21, N) := by rw [en]; exact h2
  have hri : inR i := okS_hd oS
  have hok := hA.2.2.1 a.toNat i.toNat hi (by rw [hsh]; show i.toNat < N; omega)
  rw [hsh, en, ei] at hok
  have hok : μ a i = 0 ∨ μ a i = 1 := hok
  have w := w hok p e s m args below meth c H locs ls C0 hA hS hl oL (okS_cons (by show inR _; rcases hok with h | h <;> rw [h] <;> exact ⟨by decide, by decide⟩) (okS_tl (okS_tl oS)))
  have he := world_at (cA := gA G) (b0 := gb G) (μ := μ) hi
  rw [ent_num hsh (by decide) (by decide)] at he
  rw [List.map_cons, List.map_cons, cv_ref h0]
  refine va_zald C0.1 C0.2.1 C0.2.2.2.2.2.2.2.2.1.1 hA.1 a.toNat 1 he rfl (I_in hri i0 i1) hd ?_
  rw [I_clamp hri, en, ei]
  exact w
theorem rf_cv (b0 : Nat) (v : Int) : va_rf (if v < 0 then none else some (b0 + v.toNat)) = cv b0 (.inr v) := by
  show _ = (if v < 0 then Value.null else Value.ref (b0 + v.toNat))
  split <;> rfl
theorem a_aaload {N kd t0 : Nat} {C : String} {a i : Int} (hd : decode Y.2.1 pc = .ok (.aaload, 1)) (hk : 22 ≤ kd) (ht : (tysG (gA G))[t0]? = some (gA G kd, .object C)) (ho : gx G n μ → 0 ≤ a ∧ a < n ∧ SH a = (kd, N)) (i0 : 0 ≤ i) (i1 : i < N) (w : Wa G Y Z c0 s0 n μ (pc + 1) L (.inr (μ a i) :: st)) : Wa G Y Z c0 s0 n μ pc L (.inl i :: .inr a :: st) := by
  intro p e s m args below meth c H locs ls C0 hA hS hl oL oS
  obtain ⟨h0, h1, h2⟩ := ho hA.2.2.2
  have en := a_toNat h0
  have ei := a_toNat i0
  have hi : a.toNat < n := by omega
  have hsh : SH (a.toNat : Int) = (kd, N) := by rw [en]; exact h2
  have hri : inR i := okS_hd oS
  have w := w p e s m args below meth c H locs ls C0 hA hS hl oL (okS_cons trivial (okS_tl (okS_tl oS)))
  have he := world_at (cA := gA G) (b0 := gb G) (μ := μ) hi
  rw [ent_ref hsh hk] at he
  rw [List.map_cons, List.map_cons, cv_ref h0]
  refine va_aldq C0.1 C0.2.1 C0.2.2.2.2.2.2.2.2.1.1 hA.1 a.toNat t0 he ht (I_in hri i0 i1) hd ?_
  rw [I_clamp hri, en, ei, rf_cv]
  exact w
theorem a_alen {N kd t0 : Nat} {ty : FieldType} {a : Int} (hd : decode Y.2.1 pc = .ok (.arraylength, 1)) (hk : 12 ≤ kd) (hN : N < 2147483648) (ht : (tysG (gA G))[t0]? = some (gA G kd, ty)) (ho : gx G n μ → 0 ≤ a ∧ a < n ∧ SH a = (kd, N)) (w : Wa G Y Z c0 s0 n μ (pc + 1) L (.inl N :: st)) : Wa G Y Z c0 s0 n μ pc L (.inr a :: st) := by
  intro p e s m args below meth c H locs ls C0 hA hS hl oL oS
  obtain ⟨h0, h1, h2⟩ := ho hA.2.2.2
  have en := a_toNat h0
  have hi : a.toNat < n := by omega
  have hsh : SH (a.toNat : Int) = (kd, N) := by rw [en]; exact h2
  have w := w p e s m args below meth c H locs ls C0 hA hS hl oL (okS_cons (show inR (N : Int) from ⟨by omega, by omega⟩) (okS_tl oS))
  have he := world_at (cA := gA G) (b0 := gb G) (μ := μ) hi
  rw [List.map_cons, cv_ref h0]
  by_cases h22 : kd < 22
  · rw [ent_num hsh hk h22] at he
    exact va_alen C0.1 C0.2.1 C0.2.2.2.2.2.2.2.2.1.1 hA.1 a.toNat t0 he ht (v := I N) rfl hd w
  · rw [ent_ref hsh (by omega)] at he
    exact va_alen C0.1 C0.2.1 C0.2.2.2.2.2.2.2.2.1.1 hA.1 a.toNat t0 he ht (v := I N) rfl hd w
theorem num_set {cA : ClassId} {N i : Nat} {f : Nat → Int32} {x : Int32} (v : Value) (hv : v = .int x) : (arrV cA N (fun j => .int (f j))).setSlot i v = arrV cA N (fun j => .int (upd f i x j)) := by
  subst hv
  rw [arrV_store]
  congr 1
  funext q
  by_cases hq : q = i
  · subst hq
    simp [updV, upd]
  · simp [updV, upd, hq]
theorem a_iastore {N : Nat} {a i v : Int} (hd : decode Y.2.1 pc = .ok (.iastore, 1)) (ho : gx G n μ → 0 ≤ a ∧ a < n ∧ SH a = (20, N)) (i0 : 0 ≤ i) (i1 : i < N) (hx : gx G n μ → gx G n (up μ a i v)) (w : Wa G Y Z c0 s0 n (up μ a i v) (pc + 1) L st) : Wa G Y Z c0 s0 n μ pc L (.inl v :: .inl i :: .inr a :: st) := by
  intro p e s m args below meth c H locs ls C0 hA hS hl oL oS
  obtain ⟨h0, h1, h2⟩ := ho hA.2.2.2
  have en := a_toNat h0
  have ei := a_toNat i0
  have hi : a.toNat < n := by omega
  have hsh : SH (a.toNat : Int) = (20, N) := by rw [en]; exact h2
  have hrv : inR v := okS_hd oS
  have hri : inR i := okS_hd (okS_tl oS)
  have he := world_at (cA := gA G) (b0 := gb G) (μ := μ) hi
  rw [ent_num hsh (by decide) (by decide)] at he
  have hK := C0.2.2.2.2.2.2.2.2.1.1
  have hcl := I_clamp hri
  rw [List.map_cons, List.map_cons, List.map_cons, cv_ref h0]
  refine W.iast C0.1 C0.2.1 (hA.1 a.toNat _ he) ((hK.2 0 _ rfl).1 N (fun j => .int (I (μ a.toNat j)))) (fun q => by cases q) (by show ¬ (I i < 0 ∨ (arrV _ _ _).slots.size ≤ _); rw [arrV_size]; exact I_in hri i0 i1) rfl rfl hd fun H1 e1 z oq => ?_
  have hA' : AH G n (up μ a i v) H1 := by
    rw [← en, ← ei]
    refine AH_up hA hi ?_ z oq (fun _ => ?_) (by rw [en, ei]; exact hx hA.2.2.2)
    · rw [ent_up_num hsh (by decide) (by decide)]
      show H1[gb G + a.toNat]? = some (vp_cell _ _)
      rw [e1, hcl, vp_cell_i, vp_cell_i]
      exact congrArg some (num_set _ rfl)
    · rw [hsh]; exact hrv
  exact w p e s m args below meth c H1 _ ls C0 hA' (hS.put z oq (Nat.le_add_right _ _)) hl oL (okS_tl (okS_tl (okS_tl oS)))
theorem a_zastore {N : Nat} {a i v : Int} (hd : decode Y.2.1 pc = .ok (.bastore, 1)) (ho : gx G n μ → 0 ≤ a ∧ a < n ∧ SH a = (21, N)) (i0 : 0 ≤ i) (i1 : i < N) (hv : v = 0 ∨ v = 1) (hx : gx G n μ → gx G n (up μ a i v)) (w : Wa G Y Z c0 s0 n (up μ a i v) (pc + 1) L st) : Wa G Y Z c0 s0 n μ pc L (.inl v :: .inl i :: .inr a :: st) := by
  intro p e s m args below meth c H locs ls C0 hA hS hl oL oS
  obtain ⟨h0, h1, h2⟩ := ho hA.2.2.2
  have en := a_toNat h0
  have ei := a_toNat i0
  have hi : a.toNat < n := by omega
  have hsh : SH (a.toNat : Int) = (21, N) := by rw [en]; exact h2
  have hri : inR i := okS_hd (okS_tl oS)
  have he := world_at (cA := gA G) (b0 := gb G) (μ := μ) hi
  rw [ent_num hsh (by decide) (by decide)] at he
  have hK := C0.2.2.2.2.2.2.2.2.1.1
  have hcl := I_clamp hri
  rw [List.map_cons, List.map_cons, List.map_cons, cv_ref h0]
  refine W.zast C0.1 C0.2.1 (hA.1 a.toNat _ he) ((hK.2 1 _ rfl).1 N (fun j => .int (I (μ a.toNat j)))) (fun q => by cases q) (by show ¬ (I i < 0 ∨ (arrV _ _ _).slots.size ≤ _); rw [arrV_size]; exact I_in hri i0 i1) rfl rfl hd fun H1 e1 z oq => ?_
  have hA' : AH G n (up μ a i v) H1 := by
    rw [← en, ← ei]
    refine AH_up hA hi ?_ z oq (fun _ => ?_) (by rw [en, ei]; exact hx hA.2.2.2)
    · rw [ent_up_num hsh (by decide) (by decide)]
      show H1[gb G + a.toNat]? = some (vp_cell _ _)
      rw [e1, hcl, vp_cell_i, vp_cell_i]
      exact congrArg some (num_set _ (by rcases hv with rfl | rfl <;> rfl))
    · rw [hsh]; exact hv
  exact w p e s m args below meth c H1 _ ls C0 hA' (hS.put z oq (Nat.le_add_right _ _)) hl oL (okS_tl (okS_tl (okS_tl oS)))
theorem ref_set {cA : ClassId} {N i : Nat} {f : Nat → Option Nat} {x : Option Nat} (v : Value) (hv : v = va_rf x) : (arrV cA N (fun j => va_rf (f j))).setSlot i v = arrV cA N (fun j => va_rf (va_up f i x j)) := by
  subst hv
  rw [arrV_store]
  congr 1
  funext q
  by_cases hq : q = i
  · subst hq
    simp [updV, va_up]
  · simp [updV, va_up, hq]
theorem a_aastore {N N' kd t0 ci : Nat} {C : String} {T : u_T} {a i v : Int} (hd : decode Y.2.1 pc = .ok (.aastore, 1)) (hk : 22 ≤ kd) (ht : (tysG (gA G))[t0]? = some (gA G kd, .object C)) (ho : gx G n μ → 0 ≤ a ∧ a < n ∧ SH a = (kd, N)) (i0 : 0 ≤ i) (i1 : i < N)
    (F : ClF ci C T N') (hv : gx G n μ → 0 ≤ v ∧ v < n ∧ SH v = (ci, N')) (hx : gx G n μ → gx G n (up μ a i v)) (w : Wa G Y Z c0 s0 n (up μ a i v) (pc + 1) L st) : Wa G Y Z c0 s0 n μ pc L (.inr v :: .inl i :: .inr a :: st) := by
  intro p e s m args below meth c H locs ls C0 hA hS hl oL oS
  obtain ⟨h0, h1, h2⟩ := ho hA.2.2.2
  obtain ⟨v0, v1, v2⟩ := hv hA.2.2.2
  have en := a_toNat h0
  have ev := a_toNat v0
  have ei := a_toNat i0
  have hi : a.toNat < n := by omega
  have hsh : SH (a.toNat : Int) = (kd, N) := by rw [en]; exact h2
  have hvh : SH (v.toNat : Int) = (ci, N') := by rw [ev]; exact v2
  have hri : inR i := okS_hd (okS_tl oS)
  have he := world_at (cA := gA G) (b0 := gb G) (μ := μ) hi
  rw [ent_ref hsh hk] at he
  have hev := world_at (cA := gA G) (b0 := gb G) (μ := μ) (i := v.toNat) (n := n) (by omega)
  rw [ent_obj hvh F.1] at hev
  have hK := C0.2.2.2.2.2.2.2.2.1.1
  have hcl := I_clamp hri
  obtain ⟨r', hr', cellV, g1, g2, g3, -⟩ := hA.1 v.toNat _ hev
  have hcls := (hK.1 ci _ F.2.1).2
  obtain ⟨kA, comp, k1, k2, k3, -⟩ := (hK.2 t0 _ ht).2
  have hcomp : comp = (gD G).1 ci := Option.some.inj (k3.symm.trans hcls.1)
  subst hcomp
  obtain ⟨kC, hkC, -⟩ := hcls.2
  have h0' : ¬ I i < 0 := fun q => I_in hri i0 i1 (Or.inl q)
  have hlt : (I i).toNatClampNeg < N := by rw [hcl]; omega
  rw [List.map_cons, List.map_cons, List.map_cons, cv_ref h0, cv_ref v0]
  refine W.aast C0.1 C0.2.1 (hA.1 a.toNat _ he) (fun q h => by cases h) (fun h => by cases h) k1 k2 rfl hkC ⟨h0', by show _ < (arrV _ _ _).slots.size; rw [arrV_size]; exact hlt⟩ g1 (fun q h => by rw [g3] at h; cases h) (by rw [g2]; exact hkC) (by rw [g2]; exact va_assign hcls) rfl rfl hd fun H1 e1 z oq => ?_
  have hA' : AH G n (up μ a i v) H1 := by
    rw [← en, ← ei]
    refine AH_up hA hi ?_ z oq (fun _ => ?_) (by rw [en, ei]; exact hx hA.2.2.2)
    · rw [ent_up_ref hsh hk]
      show H1[gb G + a.toNat]? = some (vp_cell _ _)
      rw [e1, hcl, vp_cell_q, vp_cell_q]
      refine congrArg some (ref_set _ ?_)
      rw [rf_cv, cv_ref v0]
    · rw [hsh]
      have : ety kd i.toNat = .object "" := by
        unfold ety
        rw [if_neg (by omega), if_neg (by omega), if_neg (by omega)]
      rw [this]
      trivial
  exact w p e s m args below meth c H1 _ ls C0 hA' (hS.put z oq (Nat.le_add_right _ _)) hl oL (okS_tl (okS_tl (okS_tl oS)))
theorem objD_ok (ci k : Nat) (h : smallT (tyC ci k)) : okT (tyC ci k) (objD ci k) ∧ cv 0 (av (tyC ci k) (objD ci k)) = defaultValue (tyC ci k) := by
  have e : objD ci (k : Int) = if isRefT (tyC ci k) = true then -1 else 0 := rfl
  rw [e]
  obtain ⟨h1, h2, h3, h4, h5, h6⟩ := h
  generalize tyC ci k = t at h1 h2 h3 h4 h5 h6 ⊢
  cases t with
  | int => exact ⟨⟨by decide, by decide⟩, rfl⟩
  | boolean => exact ⟨Or.inl rfl, rfl⟩
  | object _ => exact ⟨trivial, rfl⟩
  | array _ => exact ⟨trivial, rfl⟩
  | byte => exact absurd rfl h1
  | char => exact absurd rfl h2
  | short => exact absurd rfl h3
  | long => exact absurd rfl h4
  | float => exact absurd rfl h5
  | double => exact absurd rfl h6
theorem objD_cv (ci k b0 : Nat) : cv b0 (av (tyC ci k) (objD ci k)) = cv 0 (av (tyC ci k) (objD ci k)) := by
  have e : objD ci (k : Int) = if isRefT (tyC ci k) = true then -1 else 0 := rfl
  rw [e]
  unfold av
  by_cases h : isRefT (tyC ci k) = true
  · rw [if_pos h, if_pos h]; rfl
  · rw [if_neg h, if_neg h]; rfl
theorem a_new {ci N idx : Nat} {C : String} {T : u_T} (F : ClF ci C T N) (hty : ∀ k, k < N → smallT (tyC ci k)) (hd : decode Y.2.1 pc = .ok (.new idx, 3)) (hl : Cond.classLink Y.1.cls idx C ∈ gT) (hi : Cond.instantiable C N ∈ gT) (hin : Cond.initialized C ∈ gT) (hsh : SH (n : Int) = (ci, N))
    (hc : c0 + 1 ≤ Y.2.2.2.2.2.2.1) (hs : s0 + N ≤ Y.2.2.2.2.2.2.2) (hx : gx G n μ → gx G (n + 1) (nw μ n (objD ci))) (w : Wa G Y Z (c0 + 1) (s0 + N) (n + 1) (nw μ n (objD ci)) (pc + 3) L (.inr n :: st)) : Wa G Y Z c0 s0 n μ pc L st := by
  intro p e s m args below meth c H locs ls C0 hA hS hl' oL oS
  obtain ⟨C1, C2, C3, C4, C5, C6, C7, C8, C9⟩ := id C0
  have hKn := C9.1.1.1 ci _ F.2.1
  refine W.newcK C1 C2 C7 (C8 _ hl) (C8 _ hi) (C8 _ hin) rfl hd hc hs hKn.2.1 rfl fun H1 kC hkC e1 z1 o1 => ?_
  have hA' : AH G (n + 1) (nw μ n (objD ci)) H1 := by
    refine AH_nw hA ?_ z1 o1 (fun j hj => ?_) (hx hA.2.2.2)
    · rw [ent_obj hsh F.1, nw_at]
      have hb := u_born (tyC ci) C8 F.2.2.2.2 hKn hkC e1 F.2.2.1
      rw [hA.2.1] at hb
      refine ⟨_, F.2.1, hb.to (fun j hj => ?_)⟩
      have := (objD_ok ci j (hty j hj)).2
      simp only [vp_V, List.getD, List.getElem?_map, List.getElem?_range hj, Option.map_some, Option.getD_some]
      rw [objD_cv, this]
    · rw [hsh] at hj ⊢
      have : ety ci j = tyC ci j := if_pos F.1
      rw [this]
      exact (objD_ok ci j (hty j hj)).1
  have w := w p e s m args below meth c H1 locs ls C0 hA' ⟨Nat.le_trans hS.1 (by omega), fun x h1 h2 => (o1 x (Nat.lt_of_lt_of_le h1 hS.1)).trans (hS.2.1 x h1 h2), hS.2.2⟩ hl' oL (okS_cons trivial oS)
  rw [List.map_cons, cv_ref (by omega), Int.toNat_natCast, ← hA.2.1] at w
  exact w
theorem fc_pin {U : State} {cA : ClassId} {t : FieldType} (h : va_RA U cA t) : U.vm.findClass ("[" ++ t.toString) = some cA := by
  cases t with
  | object C =>
    obtain ⟨_, _, _, _, _, h⟩ := h
    exact h
  | _ => exact h
theorem a_newint {N : Nat} (hd : decode Y.2.1 pc = .ok (.newarray .int, 2)) (harr : Cond.arrayClass (newarray.typeOf .int) ∈ gT) (hN : N < 1000000) (hsh : SH (n : Int) = (20, N)) (hc : c0 + 1 ≤ Y.2.2.2.2.2.2.1) (hs : s0 + N ≤ Y.2.2.2.2.2.2.2)
    (hx : gx G n μ → gx G (n + 1) (nw μ n zeroD)) (w : Wa G Y Z (c0 + 1) (s0 + N) (n + 1) (nw μ n zeroD) (pc + 2) L (.inr n :: st)) : Wa G Y Z c0 s0 n μ pc L (.inl N :: st) := by
  intro p e s m args below meth c H locs ls C0 hA hS hl' oL oS
  obtain ⟨C1, C2, C3, C4, C5, C6, C7, C8, C9⟩ := id C0
  have hr : inR (N : Int) := okS_hd oS
  have hcl : (I (N : Int)).toNatClampNeg = N := by rw [I_clamp hr]; omega
  refine va_newaK C1 C2 (C8 _ harr) rfl hd rfl (fun q => ?_) hcl (by show N * 4 ≤ _; omega) hc hs rfl fun H1 cA e1 z1 o1 hAr hNm => ?_
  · rw [I_zero, I_lt hr zero_in] at q
    omega
  have hcA : cA = gA G 20 := Option.some.inj (hNm.symm.trans (fc_pin (C9.1.1.2 0 _ rfl).2))
  have hA' : AH G (n + 1) (nw μ n zeroD) H1 := by
    refine AH_nw hA ?_ z1 o1 (fun j hj => ?_) (hx hA.2.2.2)
    · rw [ent_num hsh (by decide) (by decide), nw_at]
      show H1[gb G + n]? = some (vp_cell _ _)
      rw [vp_cell_i, ← hA.2.1, e1, hcA]
      rfl
    · rw [hsh]
      exact zero_in
  have w := w p e s m args below meth c H1 locs ls C0 hA' ⟨Nat.le_trans hS.1 (by omega), fun x h1 h2 => (o1 x (Nat.lt_of_lt_of_le h1 hS.1)).trans (hS.2.1 x h1 h2), hS.2.2⟩ hl' oL (okS_cons trivial (okS_tl oS))
  rw [List.map_cons, cv_ref (by omega), Int.toNat_natCast, ← hA.2.1] at w
  exact w
theorem a_newbool {N : Nat} (hd : decode Y.2.1 pc = .ok (.newarray .boolean, 2)) (harr : Cond.arrayClass (newarray.typeOf .boolean) ∈ gT) (hN : N < 1000000) (hsh : SH (n : Int) = (21, N)) (hc : c0 + 1 ≤ Y.2.2.2.2.2.2.1) (hs : s0 + N ≤ Y.2.2.2.2.2.2.2)
    (hx : gx G n μ → gx G (n + 1) (nw μ n zeroD)) (w : Wa G Y Z (c0 + 1) (s0 + N) (n + 1) (nw μ n zeroD) (pc + 2) L (.inr n :: st)) : Wa G Y Z c0 s0 n μ pc L (.inl N :: st) := by
  intro p e s m args below meth c H locs ls C0 hA hS hl' oL oS
  obtain ⟨C1, C2, C3, C4, C5, C6, C7, C8, C9⟩ := id C0
  have hr : inR (N : Int) := okS_hd oS
  have hcl : (I (N : Int)).toNatClampNeg = N := by rw [I_clamp hr]; omega
  refine va_newaK C1 C2 (C8 _ harr) rfl hd rfl (fun q => ?_) hcl (by show N * 1 ≤ _; omega) hc hs rfl fun H1 cA e1 z1 o1 hAr hNm => ?_
  · rw [I_zero, I_lt hr zero_in] at q
    omega
  have hcA : cA = gA G 21 := Option.some.inj (hNm.symm.trans (fc_pin (C9.1.1.2 1 _ rfl).2))
  have hA' : AH G (n + 1) (nw μ n zeroD) H1 := by
    refine AH_nw hA ?_ z1 o1 (fun j hj => ?_) (hx hA.2.2.2)
    · rw [ent_num hsh (by decide) (by decide), nw_at]
      show H1[gb G + n]? = some (vp_cell _ _)
      rw [vp_cell_i, ← hA.2.1, e1, hcA]
      rfl
    · rw [hsh]
      exact Or.inl rfl
  have w := w p e s m args below meth c H1 locs ls C0 hA' ⟨Nat.le_trans hS.1 (by omega), fun x h1 h2 => (o1 x (Nat.lt_of_lt_of_le h1 hS.1)).trans (hS.2.1 x h1 h2), hS.2.2⟩ hl' oL (okS_cons trivial (okS_tl oS))
  rw [List.map_cons, cv_ref (by omega), Int.toNat_natCast, ← hA.2.1] at w
  exact w
theorem a_newref {N kd t0 idx : Nat} {C : String} (hd : decode Y.2.1 pc = .ok (.anewarray idx, 3)) (hk : 22 ≤ kd) (ht : (tysG (gA G))[t0]? = some (gA G kd, .object C)) (hl : Cond.classLink Y.1.cls idx C ∈ gT) (hao : ∀ U, K0 G U → va_AO C U) (hN : N < 1000000) (hsh : SH (n : Int) = (kd, N)) (hc : c0 + 1 ≤ Y.2.2.2.2.2.2.1) (hs : s0 + N ≤ Y.2.2.2.2.2.2.2)
    (hx : gx G n μ → gx G (n + 1) (nw μ n nullD)) (w : Wa G Y Z (c0 + 1) (s0 + N) (n + 1) (nw μ n nullD) (pc + 3) L (.inr n :: st)) : Wa G Y Z c0 s0 n μ pc L (.inl N :: st) := by
  intro p e s m args below meth c H locs ls C0 hA hS hl' oL oS
  obtain ⟨C1, C2, C3, C4, C5, C6, C7, C8, C9⟩ := id C0
  have hr : inR (N : Int) := okS_hd oS
  have hcl : (I (N : Int)).toNatClampNeg = N := by rw [I_clamp hr]; omega
  have hlk := C8 _ hl
  refine W.anew C1 C2 C7 hlk (va_AO.use (hao s C9.1)) rfl hd rfl (fun q => ?_) (by rw [hcl]; omega) hc (by rw [hcl]; exact hs) fun cA kA comp f1 f2 f3 f4 => ?_
  · rw [I_zero, I_lt hr zero_in] at q
    omega
  rw [hcl]
  generalize hH1 : H.push ({ cls := cA, slots := Array.replicate N .null, vm := .none } : Cell) = H1
  have z1 : H1.size = H.size + 1 := by rw [← hH1, Array.size_push]
  have e1 : H1[H.size]? = some (arrV cA N (fun _ => .null)) := by rw [← hH1, Array.getElem?_push_size, ← arrV_new]
  have o1 : ∀ q : Nat, q < H.size → H1[q]? = H[q]? := fun q hq => by rw [← hH1, Array.getElem?_push, if_neg (Nat.ne_of_lt hq)]
  have hcA : cA = gA G kd := Option.some.inj (f1.symm.trans (fc_pin (C9.1.1.2 t0 _ ht).2))
  have hA' : AH G (n + 1) (nw μ n nullD) H1 := by
    refine AH_nw hA ?_ z1 o1 (fun j hj => ?_) (hx hA.2.2.2)
    · rw [ent_ref hsh hk, nw_at]
      show H1[gb G + n]? = some (vp_cell _ _)
      rw [vp_cell_q, ← hA.2.1, e1, hcA]
      rfl
    · rw [hsh]
      have : ety kd j = .object "" := by
        unfold ety
        rw [if_neg (by omega), if_neg (by omega), if_neg (by omega)]
      rw [this]
      trivial
  have w := w p e s m args below meth c H1 locs ls C0 hA' ⟨Nat.le_trans hS.1 (by omega), fun x h1 h2 => (o1 x (Nat.lt_of_lt_of_le h1 hS.1)).trans (hS.2.1 x h1 h2), hS.2.2⟩ hl' oL (okS_cons trivial (okS_tl oS))
  rw [List.map_cons, cv_ref (by omega), Int.toNat_natCast, ← hA.2.1] at w
  exact w
theorem cat_sum (b0 : Nat) (st : List AV) : ((st.map (cv b0)).map fun v => v.category).sum = st.length := by
  induction st with
  | nil => rfl
  | cons v t ih =>
    rw [List.map_cons, List.map_cons, List.sum_cons, ih, cv_cat, List.length_cons]
    omega
theorem a_objInit {idx : Nat} {a : Int} (hd : decode Y.2.1 pc = .ok (.invokespecial idx, 3)) (hl : Cond.methodLink Y.1.cls idx Lib.objectInit ∈ gT) (h1 : Cond.instanceMethod Lib.objectInit ∈ gT) (h2 : Cond.code Lib.objectInit ⟨#[0xb1]⟩ 1 none ∈ gT) (ha : 0 ≤ a) (hst : st.length ≤ 8)
    (hf : 1 ≤ Y.2.2.2.2.1) (hlo : 20 ≤ Y.2.2.2.2.2.1) (w : Wa G Y Z c0 s0 n μ (pc + 3) L st) : Wa G Y Z c0 s0 n μ pc L (.inr a :: st) := by
  intro p e s m args below meth c H locs ls C0 hA hS hl' oL oS
  obtain ⟨C1, C2, C3, C4, C5, C6, C7, C8, C9⟩ := id C0
  have w := w p e s m args below meth c H locs ls C0 hA hS hl' oL (okS_tl oS)
  rw [List.map_cons, cv_ref ha]
  refine W.objInit C1 C2 C7 (C8 _ hl) (C8 _ h1) (C8 _ h2) rfl (by rw [C3]; exact hl'.1) rfl hd hf ?_ w
  rw [cat_sum]
  show 2 * 0 + st.length + 12 ≤ Y.2.2.2.2.2.1
  omega
theorem a_max {idx : Nat} {x y : Int} (hd : decode Y.2.1 pc = .ok (.invokestatic idx, 3)) (hl : Cond.methodLink Y.1.cls idx Lib.Math.max.name ∈ gT) (h1 : Cond.static Lib.Math.max.name ∈ gT) (h2 : Cond.initialized "java/lang/Math" ∈ gT) (h3 : Cond.code Lib.Math.max.name Lib.Math.max.code 2 (some .int) ∈ gT) (hst : st.length ≤ 7)
    (hf : 1 ≤ Y.2.2.2.2.1) (hlo : 20 ≤ Y.2.2.2.2.2.1) (hc : c0 ≤ Y.2.2.2.2.2.2.1) (hs : s0 ≤ Y.2.2.2.2.2.2.2) (w : Wa G Y Z c0 s0 n μ (pc + 3) L (.inl (if x < y then y else x) :: st)) : Wa G Y Z c0 s0 n μ pc L (.inl y :: .inl x :: st) := by
  intro p e s m args below meth c H locs ls C0 hA hS hl' oL oS
  obtain ⟨C1, C2, C3, C4, C5, C6, C7, C8, C9⟩ := id C0
  have hy : inR y := okS_hd oS
  have hx : inR x := okS_hd (okS_tl oS)
  have w := w p e s m args below meth c H locs ls C0 hA hS hl' oL (okS_cons (by show inR _; split <;> assumption) (okS_tl (okS_tl oS)))
  refine va_mmax C1 C2 (by rw [C3]; exact hl'.1.symm) C7 (C8 _ hl) (C8 _ h1) (C8 _ h2) (C8 _ h3) hf ?_ hc hs hd ?_
  · rw [cat_sum]
    show st.length + 13 ≤ Y.2.2.2.2.2.1
    omega
  · have e1 : (if I x < I y then I y else I x) = I (if x < y then y else x) := by
      by_cases h : x < y
      · rw [if_pos h, if_pos ((I_lt hx hy).mpr h)]
      · rw [if_neg h, if_neg (fun q => h ((I_lt hx hy).mp q))]
    rw [e1]
    exact w
theorem a_min {idx : Nat} {x y : Int} (hd : decode Y.2.1 pc = .ok (.invokestatic idx, 3)) (hl : Cond.methodLink Y.1.cls idx Lib.Math.min.name ∈ gT) (h1 : Cond.static Lib.Math.min.name ∈ gT) (h2 : Cond.initialized "java/lang/Math" ∈ gT) (h3 : Cond.code Lib.Math.min.name Lib.Math.min.code 2 (some .int) ∈ gT) (hst : st.length ≤ 7)
    (hf : 1 ≤ Y.2.2.2.2.1) (hlo : 20 ≤ Y.2.2.2.2.2.1) (hc : c0 ≤ Y.2.2.2.2.2.2.1) (hs : s0 ≤ Y.2.2.2.2.2.2.2) (w : Wa G Y Z c0 s0 n μ (pc + 3) L (.inl (if y < x then y else x) :: st)) : Wa G Y Z c0 s0 n μ pc L (.inl y :: .inl x :: st) := by
  intro p e s m args below meth c H locs ls C0 hA hS hl' oL oS
  obtain ⟨C1, C2, C3, C4, C5, C6, C7, C8, C9⟩ := id C0
  have hy : inR y := okS_hd oS
  have hx : inR x := okS_hd (okS_tl oS)
  have w := w p e s m args below meth c H locs ls C0 hA hS hl' oL (okS_cons (by show inR _; split <;> assumption) (okS_tl (okS_tl oS)))
  refine va_mmin C1 C2 (by rw [C3]; exact hl'.1.symm) C7 (C8 _ hl) (C8 _ h1) (C8 _ h2) (C8 _ h3) hf ?_ hc hs hd ?_
  · rw [cat_sum]
    show st.length + 13 ≤ Y.2.2.2.2.2.1
    omega
  · have e1 : (if I y < I x then I y else I x) = I (if y < x then y else x) := by
      by_cases h : y < x
      · rw [if_pos h, if_pos ((I_lt hy hx).mpr h)]
      · rw [if_neg h, if_neg (fun q => h ((I_lt hy hx).mp q))]
    rw [e1]
    exact w
end RowsD
end
section
-- contracts, entries, ends and calls
def QI (G : GT) (Q : Int → Nat → Mem → Prop) : Array Value → State → Outcome → State → Prop := va_Qi (S := Int × Nat × Mem) (fun r u => r = I u.1 ∧ inR u.1 ∧ Q u.1 u.2.1 u.2.2) (fun u t => AH G u.2.1 u.2.2 t.heap) (fun q : Nat => gb G ≤ q)
def QV (G : GT) (Q : Nat → Mem → Prop) : Array Value → State → Outcome → State → Prop := va_Qv (S := Nat × Mem) (fun u => Q u.1 u.2) (fun u t => AH G u.1 u.2 t.heap) (fun q : Nat => gb G ≤ q)
def QR (G : GT) (Q : Int → Nat → Mem → Prop) : Array Value → State → Outcome → State → Prop := va_Qr (S := Int × Nat × Mem) (fun u => 0 ≤ u.1 ∧ Q u.1 u.2.1 u.2.2) (fun u a t => a = gb G + u.1.toNat ∧ AH G u.2.1 u.2.2 t.heap) (fun q : Nat => gb G ≤ q)
def PreC (G : GT) (As : List AV) (n : Nat) (μ : Mem) : Array Value → State → Prop := fun v U => v = (As.map (cv (gb G))).toArray ∧ AH G n μ U.heap ∧ K0 G U
/-- the contract of a method at these arguments and this memory: it returns an int .. -/
def CI (G : GT) (Y : MD) (As : List AV) (n : Nat) (μ : Mem) (Q : Int → Nat → Mem → Prop) : Prop :=
  okS As → Met (gl G) Y.1 (wsM Y) (rmOf Y) (PreC G As n μ) (QI G Q) Y.2.2.2.2.2.2.1 Y.2.2.2.2.2.2.2 (fun q : Nat => gb G ≤ q)
/-- .. nothing .. -/
def CV (G : GT) (Y : MD) (As : List AV) (n : Nat) (μ : Mem) (Q : Nat → Mem → Prop) : Prop :=
  okS As → Met (gl G) Y.1 (wsM Y) (rmOf Y) (PreC G As n μ) (QV G Q) Y.2.2.2.2.2.2.1 Y.2.2.2.2.2.2.2 (fun q : Nat => gb G ≤ q)
/-- .. a cell -/
def CR (G : GT) (Y : MD) (As : List AV) (n : Nat) (μ : Mem) (Q : Int → Nat → Mem → Prop) : Prop :=
  okS As → Met (gl G) Y.1 (wsM Y) (rmOf Y) (PreC G As n μ) (QR G Q) Y.2.2.2.2.2.2.1 Y.2.2.2.2.2.2.2 (fun q : Nat => gb G ≤ q)
def ZI (G : GT) (Y : MD) (Q : Int → Nat → Mem → Prop) : ZT := (fun below args s => MQ below (QI G Q) args s Y.2.2.2.2.2.2.1 Y.2.2.2.2.2.2.2 (fun q : Nat => gb G ≤ q), fun _ _ => True)
def ZV (G : GT) (Y : MD) (Q : Nat → Mem → Prop) : ZT := (fun below args s => MQ below (QV G Q) args s Y.2.2.2.2.2.2.1 Y.2.2.2.2.2.2.2 (fun q : Nat => gb G ≤ q), fun _ _ => True)
def ZR (G : GT) (Y : MD) (Q : Int → Nat → Mem → Prop) : ZT := (fun below args s => MQ below (QR G Q) args s Y.2.2.2.2.2.2.1 Y.2.2.2.2.2.2.2 (fun q : Nat => gb G ≤ q), fun _ _ => True)
def argL : Nat → List AV → List (Nat × AV)
  | _, [] => []
  | i, v :: t => (i, v) :: argL (i + 1) t
theorem argL_lv (b0 i : Nat) (As : List AV) : lv_args i (As.map (cv b0)) = cvL b0 (argL i As) := by
  induction As generalizing i with
  | nil => rfl
  | cons v t ih =>
    rw [List.map_cons]
    show (i, cv b0 v) :: lv_args (if (cv b0 v).category = 2 then i + 2 else i + 1) (t.map (cv b0)) = (i, cv b0 v) :: cvL b0 (argL (i + 1) t)
    rw [if_neg (by rw [cv_cat]; decide), ih]
theorem argL_ok {i : Nat} {As : List AV} (h : okS As) : okL (argL i As) := by
  induction As generalizing i with
  | nil => intro q hq; cases hq
  | cons v t ih =>
    intro q hq
    rcases List.mem_cons.mp hq with rfl | hq
    · exact okS_hd h
    · exact ih (okS_tl h) q hq
theorem lg_len (b0 : Nat) (As : List AV) : (lg_sl (As.map (cv b0))).length = As.length := by
  induction As with
  | nil => rfl
  | cons v t ih =>
    unfold lg_sl at ih ⊢
    rw [List.map_cons, List.flatMap_cons, List.length_append, ih, if_neg (by rw [cv_cat]; decide), List.length_cons]
    simp only [List.length_cons, List.length_nil]
    omega
/-- the entry of a method, whatever it returns -/
theorem e_core {G : GT} {Y : MD} {As : List AV} {n : Nat} {μ : Mem} {Qc : Array Value → State → Outcome → State → Prop} {Z : ZT} (hZ : ∀ below args s, Z.1 below args s = MQ below Qc args s Y.2.2.2.2.2.2.1 Y.2.2.2.2.2.2.2 (fun q : Nat => gb G ≤ q)) (hZ2 : ∀ args s, Z.2 args s)
    (hp : plainName Y.1.cls = true) (hA : As.length ≤ Y.2.2.1) (ok : okS As) (w : Wa G Y Z 0 0 n μ 0 (argL 0 As) []) : Met (gl G) Y.1 (wsM Y) (rmOf Y) (PreC G As n μ) Qc Y.2.2.2.2.2.2.1 Y.2.2.2.2.2.2.2 (fun q : Nat => gb G ≤ q) := by
  refine Met.ofW (cc := Y.2.1) (maxL := Y.2.2.1) (ret := Y.2.2.2.1) hp rfl ?_
  intro p e s m args below meth c s₁ B hml hv
  obtain ⟨rfl, hH, hK⟩ := hv
  have hts := atoms_spec (ws := wsM Y) B.pre
  have hown : s.vm.findClass Y.1.cls = some m.cls := findClass_of_methodNamed B.named
  have hl := lv_entry (As.map (cv (gb G))) (n := Y.2.2.1) (by rw [lg_len]; exact hA)
  rw [argL_lv] at hl
  rw [lg_entry_eq, ← hZ]
  exact w p e s m _ below meth c s.heap [] _ ⟨B.exec, B.bytes, hml, B.returns, B.notSynchronized, fun h => (name_of_methodNamed B.named B.method).1.trans h, hown, fun w hw => hts w (List.mem_cons_of_mem _ hw), hK, by rw [hH.2.1]; exact Nat.le_add_right _ _, hZ2 _ _⟩ hH va_S.rf hl (argL_ok ok) (fun _ h => by cases h)
theorem e_I {G : GT} {Y : MD} {As : List AV} {n : Nat} {μ : Mem} {Q : Int → Nat → Mem → Prop} (hp : plainName Y.1.cls = true) (hA : As.length ≤ Y.2.2.1) (w : Wa G Y (ZI G Y Q) 0 0 n μ 0 (argL 0 As) []) : CI G Y As n μ Q :=
  fun ok => e_core (Z := ZI G Y Q) (fun _ _ _ => rfl) (fun _ _ => trivial) hp hA ok w
theorem e_V {G : GT} {Y : MD} {As : List AV} {n : Nat} {μ : Mem} {Q : Nat → Mem → Prop} (hp : plainName Y.1.cls = true) (hA : As.length ≤ Y.2.2.1) (w : Wa G Y (ZV G Y Q) 0 0 n μ 0 (argL 0 As) []) : CV G Y As n μ Q :=
  fun ok => e_core (Z := ZV G Y Q) (fun _ _ _ => rfl) (fun _ _ => trivial) hp hA ok w
theorem e_R {G : GT} {Y : MD} {As : List AV} {n : Nat} {μ : Mem} {Q : Int → Nat → Mem → Prop} (hp : plainName Y.1.cls = true) (hA : As.length ≤ Y.2.2.1) (w : Wa G Y (ZR G Y Q) 0 0 n μ 0 (argL 0 As) []) : CR G Y As n μ Q :=
  fun ok => e_core (Z := ZR G Y Q) (fun _ _ _ => rfl) (fun _ _ => trivial) hp hA ok w
section Ends
variable {G : GT} {Y : MD} {c0 s0 n pc : Nat} {μ : Mem} {L : List (Nat × AV)}
theorem a_iret {Q : Int → Nat → Mem → Prop} {v : Int} (hd : decode Y.2.1 pc = .ok (.ireturn, 1)) (hr : Y.2.2.2.1 = some .int) (hc : c0 ≤ Y.2.2.2.2.2.2.1) (hs : s0 ≤ Y.2.2.2.2.2.2.2) (q : Q v n μ) : Wa G Y (ZI G Y Q) c0 s0 n μ pc L [.inl v] := by
  intro p e s m args below meth c H locs ls C hA hS hl oL oS
  obtain ⟨C1, C2, C3, C4, C5, C6, C7, C8, C9⟩ := C
  refine W.widen hc hs ?_
  exact W.iret C1 C2 (C4.trans hr) (fun t ht hW => ⟨⟨_, (v, n, μ), rfl, ⟨rfl, okS_hd oS, q⟩, by show AH G n μ t.heap; rw [ht]; exact hA⟩, hS.F ht⟩) hS.2.2 hd C5
theorem a_zret {Q : Int → Nat → Mem → Prop} {v : Int} (hd : decode Y.2.1 pc = .ok (.ireturn, 1)) (hr : Y.2.2.2.1 = some .boolean) (hc : c0 ≤ Y.2.2.2.2.2.2.1) (hs : s0 ≤ Y.2.2.2.2.2.2.2) (hv : v = 0 ∨ v = 1) (q : Q v n μ) : Wa G Y (ZI G Y Q) c0 s0 n μ pc L [.inl v] := by
  intro p e s m args below meth c H locs ls C hA hS hl oL oS
  obtain ⟨C1, C2, C3, C4, C5, C6, C7, C8, C9⟩ := C
  refine W.widen hc hs ?_
  exact W.zret C1 C2 (C4.trans hr) (by rcases hv with rfl | rfl <;> rfl) (fun t ht hW => ⟨⟨_, (v, n, μ), rfl, ⟨rfl, okS_hd oS, q⟩, by show AH G n μ t.heap; rw [ht]; exact hA⟩, hS.F ht⟩) hS.2.2 hd C5
theorem a_ret {Q : Nat → Mem → Prop} (hd : decode Y.2.1 pc = .ok (.return_, 1)) (hr : Y.2.2.2.1 = none) (hc : c0 ≤ Y.2.2.2.2.2.2.1) (hs : s0 ≤ Y.2.2.2.2.2.2.2) (q : Q n μ) : Wa G Y (ZV G Y Q) c0 s0 n μ pc L [] := by
  intro p e s m args below meth c H locs ls C hA hS hl oL oS
  obtain ⟨C1, C2, C3, C4, C5, C6, C7, C8, C9⟩ := C
  refine W.widen hc hs ?_
  exact W.vret C1 C2 (C4.trans hr) (fun t ht hW => ⟨⟨(n, μ), rfl, q, by show AH G n μ t.heap; rw [ht]; exact hA⟩, hS.F ht⟩) hS.2.2 hd C5
theorem a_aret {Q : Int → Nat → Mem → Prop} {a : Int} {C : String} (hd : decode Y.2.1 pc = .ok (.areturn, 1)) (hr : Y.2.2.2.1 = some (.object C)) (hc : c0 ≤ Y.2.2.2.2.2.2.1) (hs : s0 ≤ Y.2.2.2.2.2.2.2) (ha : 0 ≤ a) (q : Q a n μ) : Wa G Y (ZR G Y Q) c0 s0 n μ pc L [.inr a] := by
  intro p e s m args below meth c H locs ls C hA hS hl oL oS
  obtain ⟨C1, C2, C3, C4, C5, C6, C7, C8, C9⟩ := C
  refine W.widen hc hs ?_
  rw [List.map_cons, cv_ref ha]
  exact W.aret C1 C2 (C4.trans hr) (Or.inl ⟨_, rfl⟩) (Or.inr ⟨_, rfl⟩) (fun t ht hW => ⟨⟨(a, n, μ), _, rfl, ⟨ha, q⟩, ⟨rfl, by show AH G n μ t.heap; rw [ht]; exact hA⟩⟩, hS.F ht⟩) hS.2.2 hd C5
end Ends
theorem good_gT : ∀ w ∈ gT, (w.onTables && w.keeps) = true ∨ ∃ ty, w = .arrayClass ty := fun _ h => good_of_word (List.mem_filter.mp h).2
theorem gIn {l : List Cond} (h : ∀ w ∈ l, w ∈ gT) : GoodIn gT l := fun w hw => ⟨h w hw, good_gT w (h w hw)⟩
/-- what the tables say of a method -/
def MC (Y : MD) (k : Nat) : Prop := Cond.code Y.1 Y.2.1 Y.2.2.1 Y.2.2.2.1 ∈ gT ∧ Cond.initialized Y.1.cls ∈ gT ∧ (Y.1.cls ≠ "java/lang/invoke/MethodHandle" ∧ Y.1.cls ≠ "java/lang/invoke/VarHandle" ∧ (parseMethodDescriptor Y.1.desc).map (fun d => d.parameters.length) = some k)
theorem ws_in {Y : MD} {k : Nat} (h : MC Y k) : ∀ w ∈ wsM Y, w ∈ gT := fun w hw => by
  rcases List.mem_cons.mp hw with rfl | hw
  · exact h.1
  · exact hw
theorem pre_blind (G : GT) (As : List AV) (n : Nat) (μ : Mem) : FrameBlind (PreC G As n μ) := fun a U g mk h => ⟨h.1, h.2.1, K0_calling g mk a h.2.2⟩
/-- the callee's room fits -/
def fits2 (Y Yc : MD) (c0 s0 : Nat) : Prop := (Yc.2.2.2.2.1 + 1 ≤ Y.2.2.2.2.1 ∧ 8 + (Yc.2.2.1 + 11) + Yc.2.2.2.2.2.1 ≤ Y.2.2.2.2.2.1) ∧ (c0 + Yc.2.2.2.2.2.2.1 ≤ Y.2.2.2.2.2.2.1 ∧ s0 + Yc.2.2.2.2.2.2.2 ≤ Y.2.2.2.2.2.2.2)
section CallsA
variable {G : GT} {Y Yc : MD} {Z : ZT} {c0 s0 n pc idx : Nat} {μ : Mem} {L : List (Nat × AV)} {st stk As : List AV}
theorem okS_app {a b : List AV} (h : okS (a ++ b)) : okS a ∧ okS b := ⟨fun v hv => h v (List.mem_append_left _ hv), fun v hv => h v (List.mem_append_right _ hv)⟩
theorem okS_rev {a : List AV} (h : okS a.reverse) : okS a := fun v hv => h v (List.mem_reverse.mpr hv)
theorem map_arr {b0 : Nat} {a : Int} {As : List AV} (ha : 0 ≤ a) : ((.inr a :: As).map (cv b0)).toArray = (Value.ref (b0 + a.toNat) :: As.map (cv b0)).toArray := by
  rw [List.map_cons, cv_ref ha]
/-- the run of a virtual call -/
theorem run_V {Qc : Array Value → State → Outcome → State → Prop} {ci N : Nat} {T : u_T} {a : Int} {p : Program} {e : Env} {s : State} {m : MethodId} {args : Array Value} {below : List Frame} {meth : Method} {c : Code} {H : Heap} {locs : List Loc} {ls : Array Slot}
    (C : Cx G Y Z p s m args meth c) (hA : AH G n μ H) (hl' : lv_has ls Y.2.2.1 (cvL (gb G) L)) (hd : decode Y.2.1 pc = .ok (.invokevirtual idx, 3)) (hlk : Cond.methodLink Y.1.cls idx Yc.1 ∈ gT) (hm : MC Yc As.length) (hi : Cond.instanceMethod Yc.1 ∈ gT) (hse : Cond.selects Yc.1.cls Yc.1 Yc.1 ∈ gT)
    (hst : st.length ≤ 8) (hfit : fits2 Y Yc c0 s0) (hc : vwCl[ci]? = some (Yc.1.cls, T, N)) (hci : ci < 12) (ho : 0 ≤ a ∧ a < n ∧ SH a = (ci, N)) (hM : Met (gl G) Yc.1 (wsM Yc) (rmOf Yc) (PreC G (.inr a :: As) n μ) Qc Yc.2.2.2.2.2.2.1 Yc.2.2.2.2.2.2.2 (fun q : Nat => gb G ≤ q)) :
    va_Run p (gl G) e (rmOf Y) s m args below meth c H locs c0 s0 Yc.2.2.2.2.2.2.1 Yc.2.2.2.2.2.2.2 (F0 m pc ls ((As.reverse ++ .inr a :: st).map (cv (gb G)))) (st.map (cv (gb G))) (Qc ((.inr a :: As).map (cv (gb G))).toArray) (fun q : Nat => gb G ≤ q) := by
  obtain ⟨C1, C2, C3, C4, C5, C6, C7, C8, C9⟩ := C
  obtain ⟨h0, h1, h2⟩ := ho
  have en := a_toNat h0
  have hsh : SH (a.toNat : Int) = (ci, N) := by rw [en]; exact h2
  have he := world_at (cA := gA G) (b0 := gb G) (μ := μ) (i := a.toNat) (n := n) (by omega)
  rw [ent_obj hsh hci] at he
  rw [map_arr h0]
  refine va_runV (C := Yc.1.cls) (own := Y.1.cls) (index := idx) (As := As.map (cv (gb G))) (Ts := gT) (n := As.length) ⟨C1, C2, C3, C7, C8⟩ hM
    (cwV As.length C8 (gIn (fun w hw => ?_)) rfl rfl rfl ⟨rfl, hm.2.2⟩ hfit.1) ⟨pre_blind _ _ _ _, va_recv C9.1.1 hA.1 hc he, fun U hU hW => ⟨?_, by rw [hU]; exact hA, K0_warm hW C9.1⟩⟩ rfl (List.length_map _) hl'.1 ?_ ?_ hd hfit.2
  · unfold wsV at hw
    rcases List.mem_append.mp hw with hw | hw
    · simp only [List.mem_cons, List.not_mem_nil, or_false] at hw
      rcases hw with rfl | rfl | rfl | rfl
      · exact hlk
      · exact hi
      · exact hse
      · exact hm.2.1
    · exact ws_in hm w hw
  · rw [map_arr h0]
  · rw [List.map_append, List.map_reverse, List.map_cons, cv_ref h0]
  · rw [cat_sum]
    show 2 * 0 + st.length ≤ 8
    omega
theorem run_S {Qc : Array Value → State → Outcome → State → Prop} {p : Program} {e : Env} {s : State} {m : MethodId} {args : Array Value} {below : List Frame} {meth : Method} {c : Code} {H : Heap} {locs : List Loc} {ls : Array Slot}
    (C : Cx G Y Z p s m args meth c) (hA : AH G n μ H) (hl' : lv_has ls Y.2.2.1 (cvL (gb G) L)) (hd : decode Y.2.1 pc = .ok (.invokestatic idx, 3)) (hlk : Cond.methodLink Y.1.cls idx Yc.1 ∈ gT) (hm : MC Yc As.length) (hi : Cond.static Yc.1 ∈ gT)
    (hst : st.length ≤ 8) (hfit : fits2 Y Yc c0 s0) (hM : Met (gl G) Yc.1 (wsM Yc) (rmOf Yc) (PreC G As n μ) Qc Yc.2.2.2.2.2.2.1 Yc.2.2.2.2.2.2.2 (fun q : Nat => gb G ≤ q)) :
    va_Run p (gl G) e (rmOf Y) s m args below meth c H locs c0 s0 Yc.2.2.2.2.2.2.1 Yc.2.2.2.2.2.2.2 (F0 m pc ls ((As.reverse ++ st).map (cv (gb G)))) (st.map (cv (gb G))) (Qc (As.map (cv (gb G))).toArray) (fun q : Nat => gb G ≤ q) := by
  obtain ⟨C1, C2, C3, C4, C5, C6, C7, C8, C9⟩ := C
  have ok : ∀ w ∈ gT, w.before args s = true := C8
  refine va_runS (own := Y.1.cls) (index := idx) (As := As.map (cv (gb G))) (Ts := gT) (n := As.length) ⟨C1, C2, C3, C7, C8⟩ hM
    ⟨callB_of As.length C8 (gIn (ws_in hm)) rfl rfl rfl (ok _ hm.2.1) (ok _ hlk) hm.2.2 hfit.1, ok _ hi⟩ ⟨pre_blind _ _ _ _, fun U hU hW => ⟨rfl, by rw [hU]; exact hA, K0_warm hW C9.1⟩⟩ rfl (List.length_map _) hl'.1 ?_ ?_ hd hfit.2
  · rw [List.map_append, List.map_reverse]
  · rw [cat_sum]
    show 2 * 0 + st.length ≤ 8
    omega
theorem run_SN {Qc : Array Value → State → Outcome → State → Prop} {host : String} {p : Program} {e : Env} {s : State} {m : MethodId} {args : Array Value} {below : List Frame} {meth : Method} {c : Code} {H : Heap} {locs : List Loc} {ls : Array Slot}
    (C : Cx G Y Z p s m args meth c) (hA : AH G n μ H) (hl' : lv_has ls Y.2.2.1 (cvL (gb G) L)) (hd : decode Y.2.1 pc = .ok (.invokestatic idx, 3)) (hlk : Cond.methodLinkNest Y.1.cls idx Yc.1 host ∈ gN) (hm : MC Yc As.length) (hi : Cond.static Yc.1 ∈ gT)
    (hst : st.length ≤ 8) (hfit : fits2 Y Yc c0 s0) (hM : Met (gl G) Yc.1 (wsM Yc) (rmOf Yc) (PreC G As n μ) Qc Yc.2.2.2.2.2.2.1 Yc.2.2.2.2.2.2.2 (fun q : Nat => gb G ≤ q)) :
    va_Run p (gl G) e (rmOf Y) s m args below meth c H locs c0 s0 Yc.2.2.2.2.2.2.1 Yc.2.2.2.2.2.2.2 (F0 m pc ls ((As.reverse ++ st).map (cv (gb G)))) (st.map (cv (gb G))) (Qc (As.map (cv (gb G))).toArray) (fun q : Nat => gb G ≤ q) := by
  obtain ⟨C1, C2, C3, C4, C5, C6, C7, C8, C9⟩ := C
  have ok : ∀ w ∈ gT, w.before args s = true := C8
  refine va_runSN (own := Y.1.cls) (host := host) (index := idx) (As := As.map (cv (gb G))) (Ts := gT) (n := As.length) ⟨C1, C2, C3, C7, C8⟩ hM
    ⟨va_cnB As.length C8 (gIn (ws_in hm)) rfl rfl rfl (C9.1.2.1 _ hlk) (ok _ hm.2.1) hm.2.2 hfit.1, ok _ hi, trivial⟩ ⟨pre_blind _ _ _ _, fun U hU hW => ⟨rfl, by rw [hU]; exact hA, K0_warm hW C9.1⟩⟩ rfl (List.length_map _) hl'.1 ?_ ?_ hd hfit.2
  · rw [List.map_append, List.map_reverse]
  · rw [cat_sum]
    show 2 * 0 + st.length ≤ 8
    omega
theorem run_N {Qc : Array Value → State → Outcome → State → Prop} {a : Int} {p : Program} {e : Env} {s : State} {m : MethodId} {args : Array Value} {below : List Frame} {meth : Method} {c : Code} {H : Heap} {locs : List Loc} {ls : Array Slot}
    (C : Cx G Y Z p s m args meth c) (hA : AH G n μ H) (hl' : lv_has ls Y.2.2.1 (cvL (gb G) L)) (hd : decode Y.2.1 pc = .ok (.invokespecial idx, 3)) (hlk : Cond.methodLink Y.1.cls idx Yc.1 ∈ gT) (hm : MC Yc As.length) (hi : Cond.instanceMethod Yc.1 ∈ gT) (hn : Yc.1.name = "<init>") (hr : Yc.2.2.2.1 = none)
    (hst : st.length ≤ 8) (hfit : fits2 Y Yc c0 s0) (ha : 0 ≤ a) (hM : Met (gl G) Yc.1 (wsM Yc) (rmOf Yc) (PreC G (.inr a :: As) n μ) Qc Yc.2.2.2.2.2.2.1 Yc.2.2.2.2.2.2.2 (fun q : Nat => gb G ≤ q)) :
    va_Run p (gl G) e (rmOf Y) s m args below meth c H locs c0 s0 Yc.2.2.2.2.2.2.1 Yc.2.2.2.2.2.2.2 (F0 m pc ls ((As.reverse ++ .inr a :: st).map (cv (gb G)))) (st.map (cv (gb G))) (Qc ((.inr a :: As).map (cv (gb G))).toArray) (fun q : Nat => gb G ≤ q) := by
  obtain ⟨C1, C2, C3, C4, C5, C6, C7, C8, C9⟩ := C
  have ok : ∀ w ∈ gT, w.before args s = true := C8
  rw [map_arr ha]
  refine va_runI (own := Y.1.cls) (index := idx) (As := As.map (cv (gb G))) (Ts := gT) (n := As.length) (b := gb G + a.toNat) ⟨C1, C2, C3, C7, C8⟩ hM
    (cwI As.length C8 (gIn (ws_in hm)) (by unfold wsM; rw [hr]) rfl rfl (ok _ hm.2.1) (ok _ hlk) (ok _ hi) hn hm.2.2 hfit.1) ⟨pre_blind _ _ _ _, fun U hU hW => ⟨?_, by rw [hU]; exact hA, K0_warm hW C9.1⟩⟩ rfl (List.length_map _) hl'.1 ?_ ?_ hd hfit.2
  · rw [map_arr ha]
  · rw [List.map_append, List.map_reverse, List.map_cons, cv_ref ha]
  · rw [cat_sum]
    show 2 * 0 + st.length ≤ 8
    omega
section Behind
variable {p : Program} {e : Env} {s : State} {m : MethodId} {args : Array Value} {below : List Frame} {meth : Method} {c : Code} {H : Heap} {locs : List Loc} {ls : Array Slot} {st0 : List Value} {mc ms : Nat} {av0 : Array Value}
theorem beh_I {Q : Int → Nat → Mem → Prop} (C : Cx G Y Z p s m args meth c) (hS : va_S (fun q : Nat => gb G ≤ q) s.heap H locs) (hl : lv_has ls Y.2.2.1 (cvL (gb G) L)) (oL : okL L) (oS : okS st)
    (r : va_Run p (gl G) e (rmOf Y) s m args below meth c H locs c0 s0 mc ms (F0 m pc ls st0) (st.map (cv (gb G))) (QI G Q av0) (fun q : Nat => gb G ≤ q))
    (w : ∀ (x : Int) (n' : Nat) (ν : Mem), Q x n' ν → Wa G Y Z (c0 + mc) (s0 + ms) n' ν (pc + 3) L (.inl x :: st)) : W p (gl G) e (rmOf Y) s m args below meth c H locs c0 s0 (Z.1 below args s) (F0 m pc ls st0) := by
  refine va_calli r hS (fun q _ h => h) (fun q h => h) (fun rr u t H1 locs1 ht hvm hw hB hz hk hS1 => ?_)
  obtain ⟨rfl, hr, hq⟩ := hw
  have w := w u.1 u.2.1 u.2.2 hq p e s m args below meth c H1 locs1 ls C (by have hB : AH G u.2.1 u.2.2 t.heap := hB; rw [ht] at hB; exact hB) hS1 hl oL (okS_cons hr oS)
  exact w
theorem beh_V {Q : Nat → Mem → Prop} (C : Cx G Y Z p s m args meth c) (hS : va_S (fun q : Nat => gb G ≤ q) s.heap H locs) (hl : lv_has ls Y.2.2.1 (cvL (gb G) L)) (oL : okL L) (oS : okS st)
    (r : va_Run p (gl G) e (rmOf Y) s m args below meth c H locs c0 s0 mc ms (F0 m pc ls st0) (st.map (cv (gb G))) (QV G Q av0) (fun q : Nat => gb G ≤ q))
    (w : ∀ (n' : Nat) (ν : Mem), Q n' ν → Wa G Y Z (c0 + mc) (s0 + ms) n' ν (pc + 3) L st) : W p (gl G) e (rmOf Y) s m args below meth c H locs c0 s0 (Z.1 below args s) (F0 m pc ls st0) := by
  refine va_callv r hS (fun q _ h => h) (fun q h => h) (fun u t H1 locs1 ht hvm hw hB hz hk hS1 => ?_)
  exact w u.1 u.2 hw p e s m args below meth c H1 locs1 ls C (by have hB : AH G u.1 u.2 t.heap := hB; rw [ht] at hB; exact hB) hS1 hl oL oS
theorem beh_R {Q : Int → Nat → Mem → Prop} (C : Cx G Y Z p s m args meth c) (hS : va_S (fun q : Nat => gb G ≤ q) s.heap H locs) (hl : lv_has ls Y.2.2.1 (cvL (gb G) L)) (oL : okL L) (oS : okS st)
    (r : va_Run p (gl G) e (rmOf Y) s m args below meth c H locs c0 s0 mc ms (F0 m pc ls st0) (st.map (cv (gb G))) (QR G Q av0) (fun q : Nat => gb G ≤ q))
    (w : ∀ (x : Int) (n' : Nat) (ν : Mem), 0 ≤ x → Q x n' ν → Wa G Y Z (c0 + mc) (s0 + ms) n' ν (pc + 3) L (.inr x :: st)) : W p (gl G) e (rmOf Y) s m args below meth c H locs c0 s0 (Z.1 below args s) (F0 m pc ls st0) := by
  refine va_callr r hS (fun q _ h => h) (fun q h => h) (fun u ra t H1 locs1 ht hvm hw hB hz hk hS1 => ?_)
  obtain ⟨h0, hq⟩ := hw
  obtain ⟨rfl, hB⟩ := hB
  have w := w u.1 u.2.1 u.2.2 h0 hq p e s m args below meth c H1 locs1 ls C (by rw [ht] at hB; exact hB) hS1 hl oL (okS_cons trivial oS)
  rw [List.map_cons, cv_ref h0] at w
  exact w
end Behind
theorem c_VI {c1 s1 : Nat} {Q : Int → Nat → Mem → Prop} {ci N : Nat} {T : u_T} {a : Int} (hs : stk = As.reverse ++ .inr a :: st) (hd : decode Y.2.1 pc = .ok (.invokevirtual idx, 3)) (hlk : Cond.methodLink Y.1.cls idx Yc.1 ∈ gT) (hm : MC Yc As.length) (hi : Cond.instanceMethod Yc.1 ∈ gT) (hse : Cond.selects Yc.1.cls Yc.1 Yc.1 ∈ gT)
    (hst : st.length ≤ 8) (hfit : fits2 Y Yc c0 s0) (hc : vwCl[ci]? = some (Yc.1.cls, T, N)) (hci : ci < 12) (ho : gx G n μ → 0 ≤ a ∧ a < n ∧ SH a = (ci, N))
    (h : CI G Yc (.inr a :: As) n μ Q) (hc1 : c0 + Yc.2.2.2.2.2.2.1 = c1) (hs1 : s0 + Yc.2.2.2.2.2.2.2 = s1)
    (w : ∀ (x : Int) (n' : Nat) (ν : Mem), Q x n' ν → Wa G Y Z c1 s1 n' ν (pc + 3) L (.inl x :: st)) : Wa G Y Z c0 s0 n μ pc L stk := by
  subst hs
  subst hc1
  subst hs1
  intro p e s m args below meth c H locs ls C hA hS hl oL oS
  have o1 := okS_app oS
  exact beh_I C hS hl oL (okS_tl o1.2) (run_V C hA hl hd hlk hm hi hse hst hfit hc hci (ho hA.2.2.2) (h (okS_cons trivial (okS_rev o1.1)))) w
theorem c_VV {c1 s1 : Nat} {Q : Nat → Mem → Prop} {ci N : Nat} {T : u_T} {a : Int} (hs : stk = As.reverse ++ .inr a :: st) (hd : decode Y.2.1 pc = .ok (.invokevirtual idx, 3)) (hlk : Cond.methodLink Y.1.cls idx Yc.1 ∈ gT) (hm : MC Yc As.length) (hi : Cond.instanceMethod Yc.1 ∈ gT) (hse : Cond.selects Yc.1.cls Yc.1 Yc.1 ∈ gT)
    (hst : st.length ≤ 8) (hfit : fits2 Y Yc c0 s0) (hc : vwCl[ci]? = some (Yc.1.cls, T, N)) (hci : ci < 12) (ho : gx G n μ → 0 ≤ a ∧ a < n ∧ SH a = (ci, N))
    (h : CV G Yc (.inr a :: As) n μ Q) (hc1 : c0 + Yc.2.2.2.2.2.2.1 = c1) (hs1 : s0 + Yc.2.2.2.2.2.2.2 = s1)
    (w : ∀ (n' : Nat) (ν : Mem), Q n' ν → Wa G Y Z c1 s1 n' ν (pc + 3) L st) : Wa G Y Z c0 s0 n μ pc L stk := by
  subst hs
  subst hc1
  subst hs1
  intro p e s m args below meth c H locs ls C hA hS hl oL oS
  have o1 := okS_app oS
  exact beh_V C hS hl oL (okS_tl o1.2) (run_V C hA hl hd hlk hm hi hse hst hfit hc hci (ho hA.2.2.2) (h (okS_cons trivial (okS_rev o1.1)))) w
theorem c_VR {c1 s1 : Nat} {Q : Int → Nat → Mem → Prop} {ci N : Nat} {T : u_T} {a : Int} (hs : stk = As.reverse ++ .inr a :: st) (hd : decode Y.2.1 pc = .ok (.invokevirtual idx, 3)) (hlk : Cond.methodLink Y.1.cls idx Yc.1 ∈ gT) (hm : MC Yc As.length) (hi : Cond.instanceMethod Yc.1 ∈ gT) (hse : Cond.selects Yc.1.cls Yc.1 Yc.1 ∈ gT)
    (hst : st.length ≤ 8) (hfit : fits2 Y Yc c0 s0) (hc : vwCl[ci]? = some (Yc.1.cls, T, N)) (hci : ci < 12) (ho : gx G n μ → 0 ≤ a ∧ a < n ∧ SH a = (ci, N))
    (h : CR G Yc (.inr a :: As) n μ Q) (hc1 : c0 + Yc.2.2.2.2.2.2.1 = c1) (hs1 : s0 + Yc.2.2.2.2.2.2.2 = s1)
    (w : ∀ (x : Int) (n' : Nat) (ν : Mem), 0 ≤ x → Q x n' ν → Wa G Y Z c1 s1 n' ν (pc + 3) L (.inr x :: st)) : Wa G Y Z c0 s0 n μ pc L stk := by
  subst hs
  subst hc1
  subst hs1
  intro p e s m args below meth c H locs ls C hA hS hl oL oS
  have o1 := okS_app oS
  exact beh_R C hS hl oL (okS_tl o1.2) (run_V C hA hl hd hlk hm hi hse hst hfit hc hci (ho hA.2.2.2) (h (okS_cons trivial (okS_rev o1.1)))) w
theorem c_SI {c1 s1 : Nat} {Q : Int → Nat → Mem → Prop} (hs : stk = As.reverse ++ st) (hd : decode Y.2.1 pc = .ok (.invokestatic idx, 3)) (hlk : Cond.methodLink Y.1.cls idx Yc.1 ∈ gT) (hm : MC Yc As.length) (hi : Cond.static Yc.1 ∈ gT) (hst : st.length ≤ 8) (hfit : fits2 Y Yc c0 s0)
    (h : CI G Yc As n μ Q) (hc1 : c0 + Yc.2.2.2.2.2.2.1 = c1) (hs1 : s0 + Yc.2.2.2.2.2.2.2 = s1)
    (w : ∀ (x : Int) (n' : Nat) (ν : Mem), Q x n' ν → Wa G Y Z c1 s1 n' ν (pc + 3) L (.inl x :: st)) : Wa G Y Z c0 s0 n μ pc L stk := by
  subst hs
  subst hc1
  subst hs1
  intro p e s m args below meth c H locs ls C hA hS hl oL oS
  have o1 := okS_app oS
  exact beh_I C hS hl oL o1.2 (run_S C hA hl hd hlk hm hi hst hfit (h (okS_rev o1.1))) w
theorem c_SV {c1 s1 : Nat} {Q : Nat → Mem → Prop} (hs : stk = As.reverse ++ st) (hd : decode Y.2.1 pc = .ok (.invokestatic idx, 3)) (hlk : Cond.methodLink Y.1.cls idx Yc.1 ∈ gT) (hm : MC Yc As.length) (hi : Cond.static Yc.1 ∈ gT) (hst : st.length ≤ 8) (hfit : fits2 Y Yc c0 s0)
    (h : CV G Yc As n μ Q) (hc1 : c0 + Yc.2.2.2.2.2.2.1 = c1) (hs1 : s0 + Yc.2.2.2.2.2.2.2 = s1)
    (w : ∀ (n' : Nat) (ν : Mem), Q n' ν → Wa G Y Z c1 s1 n' ν (pc + 3) L st) : Wa G Y Z c0 s0 n μ pc L stk := by
  subst hs
  subst hc1
  subst hs1
  intro p e s m args below meth c H locs ls C hA hS hl oL oS
  have o1 := okS_app oS
  exact beh_V C hS hl oL o1.2 (run_S C hA hl hd hlk hm hi hst hfit (h (okS_rev o1.1))) w
theorem c_SNI {c1 s1 : Nat} {Q : Int → Nat → Mem → Prop} {host : String} (hs : stk = As.reverse ++ st) (hd : decode Y.2.1 pc = .ok (.invokestatic idx, 3)) (hlk : Cond.methodLinkNest Y.1.cls idx Yc.1 host ∈ gN) (hm : MC Yc As.length) (hi : Cond.static Yc.1 ∈ gT) (hst : st.length ≤ 8) (hfit : fits2 Y Yc c0 s0)
    (h : CI G Yc As n μ Q) (hc1 : c0 + Yc.2.2.2.2.2.2.1 = c1) (hs1 : s0 + Yc.2.2.2.2.2.2.2 = s1)
    (w : ∀ (x : Int) (n' : Nat) (ν : Mem), Q x n' ν → Wa G Y Z c1 s1 n' ν (pc + 3) L (.inl x :: st)) : Wa G Y Z c0 s0 n μ pc L stk := by
  subst hs
  subst hc1
  subst hs1
  intro p e s m args below meth c H locs ls C hA hS hl oL oS
  have o1 := okS_app oS
  exact beh_I C hS hl oL o1.2 (run_SN C hA hl hd hlk hm hi hst hfit (h (okS_rev o1.1))) w
theorem c_N {c1 s1 : Nat} {Q : Nat → Mem → Prop} {a : Int} (hs : stk = As.reverse ++ .inr a :: st) (hd : decode Y.2.1 pc = .ok (.invokespecial idx, 3)) (hlk : Cond.methodLink Y.1.cls idx Yc.1 ∈ gT) (hm : MC Yc As.length) (hi : Cond.instanceMethod Yc.1 ∈ gT) (hn : Yc.1.name = "<init>") (hr : Yc.2.2.2.1 = none) (hst : st.length ≤ 8) (hfit : fits2 Y Yc c0 s0) (ha : 0 ≤ a)
    (h : CV G Yc (.inr a :: As) n μ Q) (hc1 : c0 + Yc.2.2.2.2.2.2.1 = c1) (hs1 : s0 + Yc.2.2.2.2.2.2.2 = s1)
    (w : ∀ (n' : Nat) (ν : Mem), Q n' ν → Wa G Y Z c1 s1 n' ν (pc + 3) L st) : Wa G Y Z c0 s0 n μ pc L stk := by
  subst hs
  subst hc1
  subst hs1
  intro p e s m args below meth c H locs ls C hA hS hl oL oS
  have o1 := okS_app oS
  exact beh_V C hS hl oL (okS_tl o1.2) (run_N C hA hl hd hlk hm hi hn hr hst hfit ha (h (okS_cons trivial (okS_rev o1.1)))) w
end CallsA
theorem CI_mono {G : GT} {Y : MD} {As : List AV} {n : Nat} {μ : Mem} {Q Q' : Int → Nat → Mem → Prop} (h : CI G Y As n μ Q) (hQ : ∀ x n' ν, Q x n' ν → Q' x n' ν) : CI G Y As n μ Q' :=
  fun ok => MetFree.mono (h ok) (fun _ _ h => h) (fun _ _ _ _ _ h => h) (fun a st o t _ h => ⟨by obtain ⟨⟨⟨r, u, h1, ⟨h2, h3, h4⟩, h5⟩, h6⟩, -⟩ := h; exact ⟨⟨r, u, h1, ⟨h2, h3, hQ _ _ _ h4⟩, h5⟩, h6⟩, h.2⟩)
theorem CV_mono {G : GT} {Y : MD} {As : List AV} {n : Nat} {μ : Mem} {Q Q' : Nat → Mem → Prop} (h : CV G Y As n μ Q) (hQ : ∀ n' ν, Q n' ν → Q' n' ν) : CV G Y As n μ Q' :=
  fun ok => MetFree.mono (h ok) (fun _ _ h => h) (fun _ _ _ _ _ h => h) (fun a st o t _ h => ⟨by obtain ⟨⟨⟨u, h1, h4, h5⟩, h6⟩, -⟩ := h; exact ⟨⟨u, h1, hQ _ _ h4, h5⟩, h6⟩, h.2⟩)
theorem CR_mono {G : GT} {Y : MD} {As : List AV} {n : Nat} {μ : Mem} {Q Q' : Int → Nat → Mem → Prop} (h : CR G Y As n μ Q) (hQ : ∀ x n' ν, Q x n' ν → Q' x n' ν) : CR G Y As n μ Q' :=
  fun ok => MetFree.mono (h ok) (fun _ _ h => h) (fun _ _ _ _ _ h => h) (fun a st o t _ h => ⟨by obtain ⟨⟨⟨u, r, h1, ⟨h2, h4⟩, h5⟩, h6⟩, -⟩ := h; exact ⟨⟨u, r, h1, ⟨h2, hQ _ _ _ h4⟩, h5⟩, h6⟩, h.2⟩)
def setX (G : GT) (f : Nat → Mem → Prop) : GT := (G.1, G.2.1, G.2.2.1, G.2.2.2.1, f)
/-- from a contract over more knowledge, where that is at hand -/
theorem CI_gx {G : GT} {f : Nat → Mem → Prop} {Y : MD} {As : List AV} {n : Nat} {μ : Mem} {Q : Int → Nat → Mem → Prop} (hg : gx G = fun _ _ => True) (hf : f n μ) (h : CI (setX G f) Y As n μ Q) : CI G Y As n μ (fun r n' ν => Q r n' ν ∧ f n' ν) :=
  fun ok => MetFree.mono (h ok) (fun a s h => ⟨h.1, ⟨h.2.1.1, h.2.1.2.1, h.2.1.2.2.1, hf⟩, h.2.2⟩) (fun _ _ _ _ _ h => h) (fun a st o t _ h => ⟨by
    obtain ⟨⟨⟨r, u, h1, ⟨h2, h3, h4⟩, h5⟩, h6⟩, -⟩ := h
    have h5 : AH (setX G f) u.2.1 u.2.2 t.heap := h5
    exact ⟨⟨r, u, h1, ⟨h2, h3, h4, h5.2.2.2⟩, ⟨h5.1, h5.2.1, h5.2.2.1, by rw [hg]; trivial⟩⟩, h6⟩, h.2⟩)
theorem CV_gx {G : GT} {f : Nat → Mem → Prop} {Y : MD} {As : List AV} {n : Nat} {μ : Mem} {Q : Nat → Mem → Prop} (hg : gx G = fun _ _ => True) (hf : f n μ) (h : CV (setX G f) Y As n μ Q) : CV G Y As n μ (fun n' ν => Q n' ν ∧ f n' ν) :=
  fun ok => MetFree.mono (h ok) (fun a s h => ⟨h.1, ⟨h.2.1.1, h.2.1.2.1, h.2.1.2.2.1, hf⟩, h.2.2⟩) (fun _ _ _ _ _ h => h) (fun a st o t _ h => ⟨by
    obtain ⟨⟨⟨u, h1, h4, h5⟩, h6⟩, -⟩ := h
    have h5 : AH (setX G f) u.1 u.2 t.heap := h5
    exact ⟨⟨u, h1, ⟨h4, h5.2.2.2⟩, ⟨h5.1, h5.2.1, h5.2.2.1, by rw [hg]; trivial⟩⟩, h6⟩, h.2⟩)
/-- the rest of the room -/
def fitsB (Y Yc : MD) : Bool := Nat.ble (Yc.2.2.2.2.1 + 1) Y.2.2.2.2.1 && Nat.ble (8 + (Yc.2.2.1 + 11) + Yc.2.2.2.2.2.1) Y.2.2.2.2.2.1
theorem fits_of {Y Yc : MD} {c0 s0 : Nat} (h : fitsB Y Yc = true) (hc : c0 + Yc.2.2.2.2.2.2.1 ≤ Y.2.2.2.2.2.2.1) (hs : s0 + Yc.2.2.2.2.2.2.2 ≤ Y.2.2.2.2.2.2.2) : fits2 Y Yc c0 s0 := by
  unfold fitsB at h
  rw [Bool.and_eq_true] at h
  exact ⟨⟨Nat.le_of_ble_eq_true h.1, Nat.le_of_ble_eq_true h.2⟩, hc, hs⟩
section RowsE
variable {G : GT} {Y : MD} {Z : ZT} {c0 s0 n pc : Nat} {μ : Mem} {L L' : List (Nat × AV)} {st : List AV}
theorem b_istore_n {q : Fin 4} {i : Nat} {x : Int} (ks : List Nat) (hd : decode Y.2.1 pc = .ok (.istore_n q, 1)) (hi : (q : Nat) = i) (hn : i < Y.2.2.1) (hL : ks.filterMap (fun k => (putL i (.inl x) L)[k]?) = L') (w : Wa G Y Z c0 s0 n μ (pc + 1) L' st) : Wa G Y Z c0 s0 n μ pc L (.inl x :: st) := a_istore_n hd hi hn (a_sub ks hL w)
theorem b_istore {i : Nat} {x : Int} (ks : List Nat) (hd : decode Y.2.1 pc = .ok (.istore i, 2)) (hn : i < Y.2.2.1) (hL : ks.filterMap (fun k => (putL i (.inl x) L)[k]?) = L') (w : Wa G Y Z c0 s0 n μ (pc + 2) L' st) : Wa G Y Z c0 s0 n μ pc L (.inl x :: st) := a_istore hd hn (a_sub ks hL w)
theorem b_astore_n {q : Fin 4} {i : Nat} {x : Int} (ks : List Nat) (hd : decode Y.2.1 pc = .ok (.astore_n q, 1)) (hi : (q : Nat) = i) (hn : i < Y.2.2.1) (hL : ks.filterMap (fun k => (putL i (.inr x) L)[k]?) = L') (w : Wa G Y Z c0 s0 n μ (pc + 1) L' st) : Wa G Y Z c0 s0 n μ pc L (.inr x :: st) := a_astore_n hd hi hn (a_sub ks hL w)
theorem b_astore {i : Nat} {x : Int} (ks : List Nat) (hd : decode Y.2.1 pc = .ok (.astore i, 2)) (hn : i < Y.2.2.1) (hL : ks.filterMap (fun k => (putL i (.inr x) L)[k]?) = L') (w : Wa G Y Z c0 s0 n μ (pc + 2) L' st) : Wa G Y Z c0 s0 n μ pc L (.inr x :: st) := a_astore hd hn (a_sub ks hL w)
theorem b_iinc {i k : Nat} {d x : Int} (ks : List Nat) (hd : decode Y.2.1 pc = .ok (.iinc i d, 3)) (hk : L[k]? = some (i, .inl x)) (hr : inR (x + d)) (hn : i < Y.2.2.1) (hL : ks.filterMap (fun k => (putL i (.inl (x + d)) L)[k]?) = L') (w : Wa G Y Z c0 s0 n μ (pc + 3) L' st) : Wa G Y Z c0 s0 n μ pc L st := a_iinc hd hk hr hn (a_sub ks hL w)
end RowsE
end
section
-- where everything lies once the constructors are through: what the final fields hold
def finK (kd : Nat) (k : Int) : Bool := match kd with
  | 0 => k == 0 || k == 1
  | 2 => k == 0 || k == 1
  | 3 => k == 0 || k == 1
  | 4 => k == 0 || k == 1
  | 5 => k == 0
  | 6 => k == 0 || k == 1 || k == 2 || k == 3
  | 7 => k == 0 || k == 1
  | 8 => k == 0 || k == 1
  | 9 => k == 0
  | 10 => decide (0 ≤ k) && decide (k ≤ 10)
  | 11 => k == 3 || k == 6 || k == 7 || k == 9 || k == 10 || k == 11 || k == 12 || k == 14 || k == 15 || k == 16 || k == 18 || k == 22 || k == 23 || k == 25 || k == 26
  | 22 => decide (0 ≤ k) && decide (k < 8)
  | 24 => decide (0 ≤ k) && decide (k < 8)
  | _ => false
/-- the columns of a table, by the length of its row of cells -/
def colsOf (len : Nat) : Int := if len = 800 then 100 else if len = 18 then 3 else 4
def FV (a k : Int) : Int := match (SH a).1 with
  | 0 => if k = 0 then 7 else a + 1
  | 2 => if k = 0 then 77 else 106
  | 3 => if k = 0 then a + 1 else a + 2
  | 4 => if k = 0 then 1 else 4
  | 5 => 10
  | 6 => if k = 0 then 7 else if k = 1 then 11 else if k = 2 then 13 else 15
  | 7 => if k = 0 then a + 1 else a + 4
  | 8 => if k = 0 then colsOf (SH (a + 1)).2 else a + 1
  | 9 => a + 1
  | 10 => if k = 0 then 1 else if k = 1 then 3 else if k = 2 then 7 else if k = 3 then 10 else if k = 4 then 17 else if k = 5 then 18 else if k = 6 then 47 else if k = 7 then 76 else if k = 8 then 339 else if k = 9 then 368 else 397
  | 11 => if k = 3 then 400 else if k = 6 then 401 else if k = 7 then 402 else if k = 9 then 403 else if k = 10 then 404 else if k = 11 then 405 else if k = 12 then 406 else if k = 14 then 407 else if k = 15 then 408 else if k = 16 then 409 else if k = 18 then 410 else if k = 22 then 411 else if k = 23 then 412 else if k = 25 then 413 else 414
  | 22 => a + 1 + 3 * k
  | _ => a + 1 + 29 * k
def FX (n : Nat) (μ : Mem) : Prop := 415 ≤ n ∧ ∀ a k : Int, 0 ≤ a → a < 415 → finK (SH a).1 k = true → μ a k = FV a k
/-- a cell made by the constructors -/
def St (a : Int) (kd N : Nat) : Prop := 0 ≤ a ∧ a < 415 ∧ SH a = (kd, N)
/-- a contact -/
def Co (n : Nat) (a : Int) : Prop := 0 ≤ a ∧ a < n ∧ SH a = (1, 6)
/-- a cell, while the constructors run -/
def Oc (n : Nat) (a : Int) (kd N : Nat) : Prop := 0 ≤ a ∧ a < n ∧ SH a = (kd, N)
theorem FX_up {n : Nat} {μ : Mem} {a k v : Int} (h : FX n μ) (hk : finK (SH a).1 k = false) : FX n (up μ a k v) := by
  refine ⟨h.1, fun x j h0 h1 hj => ?_⟩
  by_cases e : x = a
  · subst e
    by_cases ej : j = k
    · subst ej
      rw [hk] at hj
      cases hj
    · rw [up_oth ej]
      exact h.2 x j h0 h1 hj
  · rw [up_ne e]
    exact h.2 x j h0 h1 hj
theorem FX_nw {n : Nat} {μ : Mem} {d : Int → Int} (h : FX n μ) : FX (n + 1) (nw μ n d) := by
  have h1 := h.1
  refine ⟨by omega, fun x j h0 hx hj => ?_⟩
  rw [nw_ne (by omega)]
  exact h.2 x j h0 hx hj
theorem St_ho {G : GT} {n : Nat} {μ : Mem} {a : Int} {kd N : Nat} (hg : gx G = FX) (h : St a kd N) : gx G n μ → 0 ≤ a ∧ a < n ∧ SH a = (kd, N) := by
  intro f
  rw [hg] at f
  have := f.1
  exact ⟨h.1, by have := h.2.1; omega, h.2.2⟩
theorem FX_put {G : GT} {n : Nat} {μ : Mem} {a k v : Int} {kd N : Nat} (hg : gx G = FX) (h : St a kd N) (hk : finK kd k = false) : gx G n μ → gx G n (up μ a k v) := by
  intro f
  rw [hg] at f ⊢
  exact FX_up f (by rw [h.2.2]; exact hk)
theorem FX_putC {G : GT} {n : Nat} {μ : Mem} {a k v : Int} (hg : gx G = FX) (h : Co n a) : gx G n μ → gx G n (up μ a k v) := by
  intro f
  rw [hg] at f ⊢
  exact FX_up f (by rw [h.2.2]; rfl)
theorem FX_new {G : GT} {n : Nat} {μ : Mem} {d : Int → Int} (hg : gx G = FX) : gx G n μ → gx G (n + 1) (nw μ n d) := by
  intro f
  rw [hg] at f ⊢
  exact FX_nw f
theorem SHL_len : SHL.length = 415 := by decide +kernel
theorem SH_new {G : GT} {n : Nat} {μ : Mem} (hg : gx G = FX) (f : gx G n μ) : SH (n : Int) = (1, 6) := by
  rw [hg] at f
  have h := f.1
  unfold SH
  rw [if_neg (by omega), List.getD_eq_getElem?_getD, List.getElem?_eq_none (by rw [SHL_len]; omega)]
  rfl
theorem tru {G : GT} {n m : Nat} {μ ν : Mem} (hg : gx G = fun _ _ => True) : gx G n μ → gx G m ν := fun _ => by rw [hg]; trivial
theorem FX_at {n : Nat} {μ : Mem} {a k : Int} {kd N : Nat} (f : FX n μ) (h : St a kd N) (hk : finK kd k = true) : μ a k = FV a k := f.2 a k h.1 h.2.1 (by rw [h.2.2]; exact hk)
section Lay
variable {n : Nat} {μ : Mem} {a k : Int} {N : Nat}
theorem fx_0_0 (f : FX n μ) (h : St a 0 N) : μ a 0 = 7 := by rw [FX_at f h (by decide)]; unfold FV; rw [h.2.2]; rfl
theorem fx_0_1 (f : FX n μ) (h : St a 0 N) : μ a 1 = a + 1 := by rw [FX_at f h (by decide)]; unfold FV; rw [h.2.2]; rfl
theorem fx_2_0 (f : FX n μ) (h : St a 2 N) : μ a 0 = 77 := by rw [FX_at f h (by decide)]; unfold FV; rw [h.2.2]; rfl
theorem fx_2_1 (f : FX n μ) (h : St a 2 N) : μ a 1 = 106 := by rw [FX_at f h (by decide)]; unfold FV; rw [h.2.2]; rfl
theorem fx_3_0 (f : FX n μ) (h : St a 3 N) : μ a 0 = a + 1 := by rw [FX_at f h (by decide)]; unfold FV; rw [h.2.2]; rfl
theorem fx_3_1 (f : FX n μ) (h : St a 3 N) : μ a 1 = a + 2 := by rw [FX_at f h (by decide)]; unfold FV; rw [h.2.2]; rfl
theorem fx_4_0 (f : FX n μ) (h : St a 4 N) : μ a 0 = 1 := by rw [FX_at f h (by decide)]; unfold FV; rw [h.2.2]; rfl
theorem fx_4_1 (f : FX n μ) (h : St a 4 N) : μ a 1 = 4 := by rw [FX_at f h (by decide)]; unfold FV; rw [h.2.2]; rfl
theorem fx_5_0 (f : FX n μ) (h : St a 5 N) : μ a 0 = 10 := by rw [FX_at f h (by decide)]; unfold FV; rw [h.2.2]; rfl
theorem fx_6_0 (f : FX n μ) (h : St a 6 N) : μ a 0 = 7 := by rw [FX_at f h (by decide)]; unfold FV; rw [h.2.2]; rfl
theorem fx_6_1 (f : FX n μ) (h : St a 6 N) : μ a 1 = 11 := by rw [FX_at f h (by decide)]; unfold FV; rw [h.2.2]; rfl
theorem fx_6_2 (f : FX n μ) (h : St a 6 N) : μ a 2 = 13 := by rw [FX_at f h (by decide)]; unfold FV; rw [h.2.2]; rfl
theorem fx_6_3 (f : FX n μ) (h : St a 6 N) : μ a 3 = 15 := by rw [FX_at f h (by decide)]; unfold FV; rw [h.2.2]; rfl
theorem fx_7_0 (f : FX n μ) (h : St a 7 N) : μ a 0 = a + 1 := by rw [FX_at f h (by decide)]; unfold FV; rw [h.2.2]; rfl
theorem fx_7_1 (f : FX n μ) (h : St a 7 N) : μ a 1 = a + 4 := by rw [FX_at f h (by decide)]; unfold FV; rw [h.2.2]; rfl
theorem fx_8_0 (f : FX n μ) (h : St a 8 N) : μ a 0 = colsOf (SH (a + 1)).2 := by rw [FX_at f h (by decide)]; unfold FV; rw [h.2.2]; rfl
theorem fx_8_1 (f : FX n μ) (h : St a 8 N) : μ a 1 = a + 1 := by rw [FX_at f h (by decide)]; unfold FV; rw [h.2.2]; rfl
theorem fx_9_0 (f : FX n μ) (h : St a 9 N) : μ a 0 = a + 1 := by rw [FX_at f h (by decide)]; unfold FV; rw [h.2.2]; rfl
theorem fx_22 (f : FX n μ) (h : St a 22 N) (h0 : 0 ≤ k) (h1 : k < 8) : μ a k = a + 1 + 3 * k := by rw [FX_at f h (by simp [finK, h0, h1])]; unfold FV; rw [h.2.2]; rfl
theorem fx_24 (f : FX n μ) (h : St a 24 N) (h0 : 0 ≤ k) (h1 : k < 8) : μ a k = a + 1 + 29 * k := by rw [FX_at f h (by simp [finK, h0, h1])]; unfold FV; rw [h.2.2]; rfl
end Lay
/-- whatever is checked for all places holds of a cell made by the constructors -/
theorem St_all {P : Int → Bool} (h : (List.range 415).all (fun i => P (i : Nat)) = true) {a : Int} {kd N : Nat} (s : St a kd N) : P a = true := by
  have := List.all_eq_true.mp h a.toNat (List.mem_range.mpr (by have := s.1; have := s.2.1; omega))
  rw [a_toNat s.1] at this
  exact this
def nxB (a : Int) (kd d kd' N' : Nat) : Bool := !((SH a).1 == kd) || (decide (a + d < 415) && (SH (a + d) == (kd', N')))
theorem nx_of {a : Int} {kd N d kd' N' : Nat} (s : St a kd N) (h : (List.range 415).all (fun i => nxB (i : Nat) kd d kd' N') = true) : St (a + d) kd' N' := by
  have := St_all (P := fun a => nxB a kd d kd' N') h s
  unfold nxB at this
  rw [s.2.2] at this
  simp at this
  exact ⟨by have := s.1; omega, this.1, this.2⟩
theorem st_0_1 {a : Int} {N : Nat} (s : St a 0 N) : St (a + 1) 8 3 := nx_of s (d := 1) (by decide +kernel)
theorem st_0_2 {a : Int} {N : Nat} (s : St a 0 N) : St (a + 1 + 1) 20 24 := by have := nx_of s (d := 2) (kd' := 20) (N' := 24) (by decide +kernel); rw [show a + 1 + 1 = a + (2 : Nat) by omega]; exact this
theorem st_3_1 {a : Int} {N : Nat} (s : St a 3 N) : St (a + 1) 1 6 := nx_of s (d := 1) (by decide +kernel)
theorem st_3_2 {a : Int} {N : Nat} (s : St a 3 N) : St (a + 2) 23 8 := nx_of s (d := 2) (by decide +kernel)
theorem st_7_1 {a : Int} {N : Nat} (s : St a 7 N) : St (a + 1) 0 9 := nx_of s (d := 1) (by decide +kernel)
theorem st_7_4 {a : Int} {N : Nat} (s : St a 7 N) : St (a + 4) 22 8 := nx_of s (d := 4) (by decide +kernel)
theorem st_9_1 {a : Int} {N : Nat} (s : St a 9 N) : St (a + 1) 20 150 := nx_of s (d := 1) (by decide +kernel)
def tbB (a : Int) : Bool := !((SH a).1 == 8) || (decide (a + 1 < 415) && ((SH (a + 1)).1 == 20))
theorem st_8_1 {a : Int} {N : Nat} (s : St a 8 N) : St (a + 1) 20 (SH (a + 1)).2 := by
  have := St_all (P := tbB) (by decide +kernel) s
  unfold tbB at this
  rw [s.2.2] at this
  simp at this
  exact ⟨by have := s.1; omega, this.1, by rw [← this.2]⟩
def buB (a : Int) : Bool := !((SH a).1 == 22) || (List.range 8).all (fun j => decide (a + 1 + 3 * (j : Nat) < 415) && (SH (a + 1 + 3 * (j : Nat)) == (0, 9)))
theorem st_22 {a k : Int} {N : Nat} (s : St a 22 N) (h0 : 0 ≤ k) (h1 : k < 8) : St (a + 1 + 3 * k) 0 9 := by
  have := St_all (P := buB) (by decide +kernel) s
  unfold buB at this
  rw [s.2.2] at this
  simp only [beq_self_eq_true, Bool.not_true, Bool.false_or] at this
  have := List.all_eq_true.mp this k.toNat (List.mem_range.mpr (by omega))
  simp only [Bool.and_eq_true, decide_eq_true_eq, beq_iff_eq] at this
  rw [a_toNat h0] at this
  exact ⟨by have := s.1; omega, this.1, this.2⟩
def siB (a : Int) : Bool := !((SH a).1 == 24) || (List.range 8).all (fun j => decide (a + 1 + 29 * (j : Nat) < 415) && (SH (a + 1 + 29 * (j : Nat)) == (7, 5)))
theorem st_24 {a k : Int} {N : Nat} (s : St a 24 N) (h0 : 0 ≤ k) (h1 : k < 8) : St (a + 1 + 29 * k) 7 5 := by
  have := St_all (P := siB) (by decide +kernel) s
  unfold siB at this
  rw [s.2.2] at this
  simp only [beq_self_eq_true, Bool.not_true, Bool.false_or] at this
  have := List.all_eq_true.mp this k.toNat (List.mem_range.mpr (by omega))
  simp only [Bool.and_eq_true, decide_eq_true_eq, beq_iff_eq] at this
  rw [a_toNat h0] at this
  exact ⟨by have := s.1; omega, this.1, this.2⟩
theorem St_dec {a : Int} {kd N : Nat} (h : (decide (0 ≤ a) && decide (a < 415) && (SH a == (kd, N))) = true) : St a kd N := by
  simp only [Bool.and_eq_true, decide_eq_true_eq, beq_iff_eq] at h
  exact ⟨h.1.1, h.1.2, h.2⟩
theorem gT_mem {i : Nat} {w : Cond} (h : lw_tbl[i]? = some w) (hg : goodWord w = true) : w ∈ gT := List.mem_filter.mpr ⟨List.mem_of_getElem? h, hg⟩
theorem gN_mem {i : Nat} {w : Cond} (h : lw_tbl[i]? = some w) (hg : isNest w = true) : w ∈ gN := List.mem_filter.mpr ⟨List.mem_of_getElem? h, hg⟩
end
section
-- words of the tables by their places; methods and their rooms; rows of the links in use (by program, wip/gen/gen_words.py)
theorem lay_0_0 : u_lay RX0 TX0 0 ∈ gT := gT_mem (i := 273) (by decide +kernel) (by decide +kernel)
theorem lay_0_1 : u_lay RX0 TX0 1 ∈ gT := gT_mem (i := 275) (by decide +kernel) (by decide +kernel)
theorem lay_0_2 : u_lay RX0 TX0 2 ∈ gT := gT_mem (i := 277) (by decide +kernel) (by decide +kernel)
theorem lay_0_3 : u_lay RX0 TX0 3 ∈ gT := gT_mem (i := 279) (by decide +kernel) (by decide +kernel)
theorem lay_0_4 : u_lay RX0 TX0 4 ∈ gT := gT_mem (i := 281) (by decide +kernel) (by decide +kernel)
theorem lay_0_5 : u_lay RX0 TX0 5 ∈ gT := gT_mem (i := 283) (by decide +kernel) (by decide +kernel)
theorem lay_0_6 : u_lay RX0 TX0 6 ∈ gT := gT_mem (i := 285) (by decide +kernel) (by decide +kernel)
theorem lay_0_7 : u_lay RX0 TX0 7 ∈ gT := gT_mem (i := 287) (by decide +kernel) (by decide +kernel)
theorem lay_0_8 : u_lay RX0 TX0 8 ∈ gT := gT_mem (i := 289) (by decide +kernel) (by decide +kernel)
theorem lays_0 : ∀ w ∈ wsX00, w ∈ gT := by
  intro w hw
  obtain ⟨k, hk, rfl⟩ := List.mem_map.mp hw
  have hk := List.mem_range.mp hk
  match k, hk with
  | 0, _ => exact lay_0_0
  | 1, _ => exact lay_0_1
  | 2, _ => exact lay_0_2
  | 3, _ => exact lay_0_3
  | 4, _ => exact lay_0_4
  | 5, _ => exact lay_0_5
  | 6, _ => exact lay_0_6
  | 7, _ => exact lay_0_7
  | 8, _ => exact lay_0_8
  | k + 9, hk => exact absurd hk (by omega)
theorem cf_0 : ClF 0 RX0 TX0 9 := ⟨by decide, rfl, tyX0_ok, nmX0, lays_0⟩
theorem sm_0 : ∀ k, k < 9 → smallT (tyC 0 k) := by
  intro k hk
  match k, hk with
  | 0, _ => exact ⟨by decide, by decide, by decide, by decide, by decide, by decide⟩
  | 1, _ => exact ⟨by decide, by decide, by decide, by decide, by decide, by decide⟩
  | 2, _ => exact ⟨by decide, by decide, by decide, by decide, by decide, by decide⟩
  | 3, _ => exact ⟨by decide, by decide, by decide, by decide, by decide, by decide⟩
  | 4, _ => exact ⟨by decide, by decide, by decide, by decide, by decide, by decide⟩
  | 5, _ => exact ⟨by decide, by decide, by decide, by decide, by decide, by decide⟩
  | 6, _ => exact ⟨by decide, by decide, by decide, by decide, by decide, by decide⟩
  | 7, _ => exact ⟨by decide, by decide, by decide, by decide, by decide, by decide⟩
  | 8, _ => exact ⟨by decide, by decide, by decide, by decide, by decide, by decide⟩
  | k + 9, hk => exact absurd hk (by omega)
theorem lay_1_0 : u_lay RX1 TX1 0 ∈ gT := gT_mem (i := 129) (by decide +kernel) (by decide +kernel)
theorem lay_1_1 : u_lay RX1 TX1 1 ∈ gT := gT_mem (i := 131) (by decide +kernel) (by decide +kernel)
theorem lay_1_2 : u_lay RX1 TX1 2 ∈ gT := gT_mem (i := 133) (by decide +kernel) (by decide +kernel)
theorem lay_1_3 : u_lay RX1 TX1 3 ∈ gT := gT_mem (i := 135) (by decide +kernel) (by decide +kernel)
theorem lay_1_4 : u_lay RX1 TX1 4 ∈ gT := gT_mem (i := 137) (by decide +kernel) (by decide +kernel)
theorem lay_1_5 : u_lay RX1 TX1 5 ∈ gT := gT_mem (i := 139) (by decide +kernel) (by decide +kernel)
theorem lays_1 : ∀ w ∈ wsX10, w ∈ gT := by
  intro w hw
  obtain ⟨k, hk, rfl⟩ := List.mem_map.mp hw
  have hk := List.mem_range.mp hk
  match k, hk with
  | 0, _ => exact lay_1_0
  | 1, _ => exact lay_1_1
  | 2, _ => exact lay_1_2
  | 3, _ => exact lay_1_3
  | 4, _ => exact lay_1_4
  | 5, _ => exact lay_1_5
  | k + 6, hk => exact absurd hk (by omega)
theorem cf_1 : ClF 1 RX1 TX1 6 := ⟨by decide, rfl, tyX1_ok, nmX1, lays_1⟩
theorem sm_1 : ∀ k, k < 6 → smallT (tyC 1 k) := by
  intro k hk
  match k, hk with
  | 0, _ => exact ⟨by decide, by decide, by decide, by decide, by decide, by decide⟩
  | 1, _ => exact ⟨by decide, by decide, by decide, by decide, by decide, by decide⟩
  | 2, _ => exact ⟨by decide, by decide, by decide, by decide, by decide, by decide⟩
  | 3, _ => exact ⟨by decide, by decide, by decide, by decide, by decide, by decide⟩
  | 4, _ => exact ⟨by decide, by decide, by decide, by decide, by decide, by decide⟩
  | 5, _ => exact ⟨by decide, by decide, by decide, by decide, by decide, by decide⟩
  | k + 6, hk => exact absurd hk (by omega)
theorem lay_2_0 : u_lay RX2 TX2 0 ∈ gT := gT_mem (i := 329) (by decide +kernel) (by decide +kernel)
theorem lay_2_1 : u_lay RX2 TX2 1 ∈ gT := gT_mem (i := 331) (by decide +kernel) (by decide +kernel)
theorem lay_2_2 : u_lay RX2 TX2 2 ∈ gT := gT_mem (i := 333) (by decide +kernel) (by decide +kernel)
theorem lay_2_3 : u_lay RX2 TX2 3 ∈ gT := gT_mem (i := 335) (by decide +kernel) (by decide +kernel)
theorem lays_2 : ∀ w ∈ wsX20, w ∈ gT := by
  intro w hw
  obtain ⟨k, hk, rfl⟩ := List.mem_map.mp hw
  have hk := List.mem_range.mp hk
  match k, hk with
  | 0, _ => exact lay_2_0
  | 1, _ => exact lay_2_1
  | 2, _ => exact lay_2_2
  | 3, _ => exact lay_2_3
  | k + 4, hk => exact absurd hk (by omega)
theorem cf_2 : ClF 2 RX2 TX2 4 := ⟨by decide, rfl, tyX2_ok, nmX2, lays_2⟩
theorem sm_2 : ∀ k, k < 4 → smallT (tyC 2 k) := by
  intro k hk
  match k, hk with
  | 0, _ => exact ⟨by decide, by decide, by decide, by decide, by decide, by decide⟩
  | 1, _ => exact ⟨by decide, by decide, by decide, by decide, by decide, by decide⟩
  | 2, _ => exact ⟨by decide, by decide, by decide, by decide, by decide, by decide⟩
  | 3, _ => exact ⟨by decide, by decide, by decide, by decide, by decide, by decide⟩
  | k + 4, hk => exact absurd hk (by omega)
theorem lay_3_0 : u_lay RX3 TX3 0 ∈ gT := gT_mem (i := 151) (by decide +kernel) (by decide +kernel)
theorem lay_3_1 : u_lay RX3 TX3 1 ∈ gT := gT_mem (i := 153) (by decide +kernel) (by decide +kernel)
theorem lay_3_2 : u_lay RX3 TX3 2 ∈ gT := gT_mem (i := 155) (by decide +kernel) (by decide +kernel)
theorem lay_3_3 : u_lay RX3 TX3 3 ∈ gT := gT_mem (i := 157) (by decide +kernel) (by decide +kernel)
theorem lays_3 : ∀ w ∈ wsX30, w ∈ gT := by
  intro w hw
  obtain ⟨k, hk, rfl⟩ := List.mem_map.mp hw
  have hk := List.mem_range.mp hk
  match k, hk with
  | 0, _ => exact lay_3_0
  | 1, _ => exact lay_3_1
  | 2, _ => exact lay_3_2
  | 3, _ => exact lay_3_3
  | k + 4, hk => exact absurd hk (by omega)
theorem cf_3 : ClF 3 RX3 TX3 4 := ⟨by decide, rfl, tyX3_ok, nmX3, lays_3⟩
theorem sm_3 : ∀ k, k < 4 → smallT (tyC 3 k) := by
  intro k hk
  match k, hk with
  | 0, _ => exact ⟨by decide, by decide, by decide, by decide, by decide, by decide⟩
  | 1, _ => exact ⟨by decide, by decide, by decide, by decide, by decide, by decide⟩
  | 2, _ => exact ⟨by decide, by decide, by decide, by decide, by decide, by decide⟩
  | 3, _ => exact ⟨by decide, by decide, by decide, by decide, by decide, by decide⟩
  | k + 4, hk => exact absurd hk (by omega)
theorem lay_4_0 : u_lay RX4 TX4 0 ∈ gT := gT_mem (i := 165) (by decide +kernel) (by decide +kernel)
theorem lay_4_1 : u_lay RX4 TX4 1 ∈ gT := gT_mem (i := 167) (by decide +kernel) (by decide +kernel)
theorem lay_4_2 : u_lay RX4 TX4 2 ∈ gT := gT_mem (i := 169) (by decide +kernel) (by decide +kernel)
theorem lay_4_3 : u_lay RX4 TX4 3 ∈ gT := gT_mem (i := 171) (by decide +kernel) (by decide +kernel)
theorem lays_4 : ∀ w ∈ wsX40, w ∈ gT := by
  intro w hw
  obtain ⟨k, hk, rfl⟩ := List.mem_map.mp hw
  have hk := List.mem_range.mp hk
  match k, hk with
  | 0, _ => exact lay_4_0
  | 1, _ => exact lay_4_1
  | 2, _ => exact lay_4_2
  | 3, _ => exact lay_4_3
  | k + 4, hk => exact absurd hk (by omega)
theorem cf_4 : ClF 4 RX4 TX4 4 := ⟨by decide, rfl, tyX4_ok, nmX4, lays_4⟩
theorem sm_4 : ∀ k, k < 4 → smallT (tyC 4 k) := by
  intro k hk
  match k, hk with
  | 0, _ => exact ⟨by decide, by decide, by decide, by decide, by decide, by decide⟩
  | 1, _ => exact ⟨by decide, by decide, by decide, by decide, by decide, by decide⟩
  | 2, _ => exact ⟨by decide, by decide, by decide, by decide, by decide, by decide⟩
  | 3, _ => exact ⟨by decide, by decide, by decide, by decide, by decide, by decide⟩
  | k + 4, hk => exact absurd hk (by omega)
theorem lay_5_0 : u_lay RX5 TX5 0 ∈ gT := gT_mem (i := 238) (by decide +kernel) (by decide +kernel)
theorem lays_5 : ∀ w ∈ wsX50, w ∈ gT := by
  intro w hw
  obtain ⟨k, hk, rfl⟩ := List.mem_map.mp hw
  have hk := List.mem_range.mp hk
  match k, hk with
  | 0, _ => exact lay_5_0
  | k + 1, hk => exact absurd hk (by omega)
theorem cf_5 : ClF 5 RX5 TX5 1 := ⟨by decide, rfl, tyX5_ok, nmX5, lays_5⟩
theorem sm_5 : ∀ k, k < 1 → smallT (tyC 5 k) := by
  intro k hk
  match k, hk with
  | 0, _ => exact ⟨by decide, by decide, by decide, by decide, by decide, by decide⟩
  | k + 1, hk => exact absurd hk (by omega)
theorem lay_6_0 : u_lay RX6 TX6 0 ∈ gT := gT_mem (i := 214) (by decide +kernel) (by decide +kernel)
theorem lay_6_1 : u_lay RX6 TX6 1 ∈ gT := gT_mem (i := 216) (by decide +kernel) (by decide +kernel)
theorem lay_6_2 : u_lay RX6 TX6 2 ∈ gT := gT_mem (i := 218) (by decide +kernel) (by decide +kernel)
theorem lay_6_3 : u_lay RX6 TX6 3 ∈ gT := gT_mem (i := 220) (by decide +kernel) (by decide +kernel)
theorem lay_6_4 : u_lay RX6 TX6 4 ∈ gT := gT_mem (i := 222) (by decide +kernel) (by decide +kernel)
theorem lay_6_5 : u_lay RX6 TX6 5 ∈ gT := gT_mem (i := 224) (by decide +kernel) (by decide +kernel)
theorem lay_6_6 : u_lay RX6 TX6 6 ∈ gT := gT_mem (i := 226) (by decide +kernel) (by decide +kernel)
theorem lay_6_7 : u_lay RX6 TX6 7 ∈ gT := gT_mem (i := 228) (by decide +kernel) (by decide +kernel)
theorem lays_6 : ∀ w ∈ wsX60, w ∈ gT := by
  intro w hw
  obtain ⟨k, hk, rfl⟩ := List.mem_map.mp hw
  have hk := List.mem_range.mp hk
  match k, hk with
  | 0, _ => exact lay_6_0
  | 1, _ => exact lay_6_1
  | 2, _ => exact lay_6_2
  | 3, _ => exact lay_6_3
  | 4, _ => exact lay_6_4
  | 5, _ => exact lay_6_5
  | 6, _ => exact lay_6_6
  | 7, _ => exact lay_6_7
  | k + 8, hk => exact absurd hk (by omega)
theorem cf_6 : ClF 6 RX6 TX6 8 := ⟨by decide, rfl, tyX6_ok, nmX6, lays_6⟩
theorem sm_6 : ∀ k, k < 8 → smallT (tyC 6 k) := by
  intro k hk
  match k, hk with
  | 0, _ => exact ⟨by decide, by decide, by decide, by decide, by decide, by decide⟩
  | 1, _ => exact ⟨by decide, by decide, by decide, by decide, by decide, by decide⟩
  | 2, _ => exact ⟨by decide, by decide, by decide, by decide, by decide, by decide⟩
  | 3, _ => exact ⟨by decide, by decide, by decide, by decide, by decide, by decide⟩
  | 4, _ => exact ⟨by decide, by decide, by decide, by decide, by decide, by decide⟩
  | 5, _ => exact ⟨by decide, by decide, by decide, by decide, by decide, by decide⟩
  | 6, _ => exact ⟨by decide, by decide, by decide, by decide, by decide, by decide⟩
  | 7, _ => exact ⟨by decide, by decide, by decide, by decide, by decide, by decide⟩
  | k + 8, hk => exact absurd hk (by omega)
theorem lay_7_0 : u_lay RX7 TX7 0 ∈ gT := gT_mem (i := 304) (by decide +kernel) (by decide +kernel)
theorem lay_7_1 : u_lay RX7 TX7 1 ∈ gT := gT_mem (i := 306) (by decide +kernel) (by decide +kernel)
theorem lay_7_2 : u_lay RX7 TX7 2 ∈ gT := gT_mem (i := 308) (by decide +kernel) (by decide +kernel)
theorem lay_7_3 : u_lay RX7 TX7 3 ∈ gT := gT_mem (i := 310) (by decide +kernel) (by decide +kernel)
theorem lay_7_4 : u_lay RX7 TX7 4 ∈ gT := gT_mem (i := 312) (by decide +kernel) (by decide +kernel)
theorem lays_7 : ∀ w ∈ wsX70, w ∈ gT := by
  intro w hw
  obtain ⟨k, hk, rfl⟩ := List.mem_map.mp hw
  have hk := List.mem_range.mp hk
  match k, hk with
  | 0, _ => exact lay_7_0
  | 1, _ => exact lay_7_1
  | 2, _ => exact lay_7_2
  | 3, _ => exact lay_7_3
  | 4, _ => exact lay_7_4
  | k + 5, hk => exact absurd hk (by omega)
theorem cf_7 : ClF 7 RX7 TX7 5 := ⟨by decide, rfl, tyX7_ok, nmX7, lays_7⟩
theorem sm_7 : ∀ k, k < 5 → smallT (tyC 7 k) := by
  intro k hk
  match k, hk with
  | 0, _ => exact ⟨by decide, by decide, by decide, by decide, by decide, by decide⟩
  | 1, _ => exact ⟨by decide, by decide, by decide, by decide, by decide, by decide⟩
  | 2, _ => exact ⟨by decide, by decide, by decide, by decide, by decide, by decide⟩
  | 3, _ => exact ⟨by decide, by decide, by decide, by decide, by decide, by decide⟩
  | 4, _ => exact ⟨by decide, by decide, by decide, by decide, by decide, by decide⟩
  | k + 5, hk => exact absurd hk (by omega)
theorem lay_8_0 : u_lay RX8 TX8 0 ∈ gT := gT_mem (i := 198) (by decide +kernel) (by decide +kernel)
theorem lay_8_1 : u_lay RX8 TX8 1 ∈ gT := gT_mem (i := 200) (by decide +kernel) (by decide +kernel)
theorem lay_8_2 : u_lay RX8 TX8 2 ∈ gT := gT_mem (i := 202) (by decide +kernel) (by decide +kernel)
theorem lays_8 : ∀ w ∈ wsX80, w ∈ gT := by
  intro w hw
  obtain ⟨k, hk, rfl⟩ := List.mem_map.mp hw
  have hk := List.mem_range.mp hk
  match k, hk with
  | 0, _ => exact lay_8_0
  | 1, _ => exact lay_8_1
  | 2, _ => exact lay_8_2
  | k + 3, hk => exact absurd hk (by omega)
theorem cf_8 : ClF 8 RX8 TX8 3 := ⟨by decide, rfl, tyX8_ok, nmX8, lays_8⟩
theorem sm_8 : ∀ k, k < 3 → smallT (tyC 8 k) := by
  intro k hk
  match k, hk with
  | 0, _ => exact ⟨by decide, by decide, by decide, by decide, by decide, by decide⟩
  | 1, _ => exact ⟨by decide, by decide, by decide, by decide, by decide, by decide⟩
  | 2, _ => exact ⟨by decide, by decide, by decide, by decide, by decide, by decide⟩
  | k + 3, hk => exact absurd hk (by omega)
theorem lay_9_0 : u_lay RX9 TX9 0 ∈ gT := gT_mem (i := 93) (by decide +kernel) (by decide +kernel)
theorem lay_9_1 : u_lay RX9 TX9 1 ∈ gT := gT_mem (i := 95) (by decide +kernel) (by decide +kernel)
theorem lays_9 : ∀ w ∈ wsX90, w ∈ gT := by
  intro w hw
  obtain ⟨k, hk, rfl⟩ := List.mem_map.mp hw
  have hk := List.mem_range.mp hk
  match k, hk with
  | 0, _ => exact lay_9_0
  | 1, _ => exact lay_9_1
  | k + 2, hk => exact absurd hk (by omega)
theorem cf_9 : ClF 9 RX9 TX9 2 := ⟨by decide, rfl, tyX9_ok, nmX9, lays_9⟩
theorem sm_9 : ∀ k, k < 2 → smallT (tyC 9 k) := by
  intro k hk
  match k, hk with
  | 0, _ => exact ⟨by decide, by decide, by decide, by decide, by decide, by decide⟩
  | 1, _ => exact ⟨by decide, by decide, by decide, by decide, by decide, by decide⟩
  | k + 2, hk => exact absurd hk (by omega)
theorem lay_10_0 : u_lay RX10 TX10 0 ∈ gT := gT_mem (i := 352) (by decide +kernel) (by decide +kernel)
theorem lay_10_1 : u_lay RX10 TX10 1 ∈ gT := gT_mem (i := 354) (by decide +kernel) (by decide +kernel)
theorem lay_10_2 : u_lay RX10 TX10 2 ∈ gT := gT_mem (i := 356) (by decide +kernel) (by decide +kernel)
theorem lay_10_3 : u_lay RX10 TX10 3 ∈ gT := gT_mem (i := 358) (by decide +kernel) (by decide +kernel)
theorem lay_10_4 : u_lay RX10 TX10 4 ∈ gT := gT_mem (i := 360) (by decide +kernel) (by decide +kernel)
theorem lay_10_5 : u_lay RX10 TX10 5 ∈ gT := gT_mem (i := 362) (by decide +kernel) (by decide +kernel)
theorem lay_10_6 : u_lay RX10 TX10 6 ∈ gT := gT_mem (i := 364) (by decide +kernel) (by decide +kernel)
theorem lay_10_7 : u_lay RX10 TX10 7 ∈ gT := gT_mem (i := 366) (by decide +kernel) (by decide +kernel)
theorem lay_10_8 : u_lay RX10 TX10 8 ∈ gT := gT_mem (i := 368) (by decide +kernel) (by decide +kernel)
theorem lay_10_9 : u_lay RX10 TX10 9 ∈ gT := gT_mem (i := 370) (by decide +kernel) (by decide +kernel)
theorem lay_10_10 : u_lay RX10 TX10 10 ∈ gT := gT_mem (i := 372) (by decide +kernel) (by decide +kernel)
theorem lay_10_11 : u_lay RX10 TX10 11 ∈ gT := gT_mem (i := 374) (by decide +kernel) (by decide +kernel)
theorem lays_10 : ∀ w ∈ wsX100, w ∈ gT := by
  intro w hw
  obtain ⟨k, hk, rfl⟩ := List.mem_map.mp hw
  have hk := List.mem_range.mp hk
  match k, hk with
  | 0, _ => exact lay_10_0
  | 1, _ => exact lay_10_1
  | 2, _ => exact lay_10_2
  | 3, _ => exact lay_10_3
  | 4, _ => exact lay_10_4
  | 5, _ => exact lay_10_5
  | 6, _ => exact lay_10_6
  | 7, _ => exact lay_10_7
  | 8, _ => exact lay_10_8
  | 9, _ => exact lay_10_9
  | 10, _ => exact lay_10_10
  | 11, _ => exact lay_10_11
  | k + 12, hk => exact absurd hk (by omega)
theorem cf_10 : ClF 10 RX10 TX10 12 := ⟨by decide, rfl, tyX10_ok, nmX10, lays_10⟩
theorem sm_10 : ∀ k, k < 12 → smallT (tyC 10 k) := by
  intro k hk
  match k, hk with
  | 0, _ => exact ⟨by decide, by decide, by decide, by decide, by decide, by decide⟩
  | 1, _ => exact ⟨by decide, by decide, by decide, by decide, by decide, by decide⟩
  | 2, _ => exact ⟨by decide, by decide, by decide, by decide, by decide, by decide⟩
  | 3, _ => exact ⟨by decide, by decide, by decide, by decide, by decide, by decide⟩
  | 4, _ => exact ⟨by decide, by decide, by decide, by decide, by decide, by decide⟩
  | 5, _ => exact ⟨by decide, by decide, by decide, by decide, by decide, by decide⟩
  | 6, _ => exact ⟨by decide, by decide, by decide, by decide, by decide, by decide⟩
  | 7, _ => exact ⟨by decide, by decide, by decide, by decide, by decide, by decide⟩
  | 8, _ => exact ⟨by decide, by decide, by decide, by decide, by decide, by decide⟩
  | 9, _ => exact ⟨by decide, by decide, by decide, by decide, by decide, by decide⟩
  | 10, _ => exact ⟨by decide, by decide, by decide, by decide, by decide, by decide⟩
  | 11, _ => exact ⟨by decide, by decide, by decide, by decide, by decide, by decide⟩
  | k + 12, hk => exact absurd hk (by omega)
theorem lay_11_0 : u_lay RX11 TX11 0 ∈ gT := gT_mem (i := 857) (by decide +kernel) (by decide +kernel)
theorem lay_11_1 : u_lay RX11 TX11 1 ∈ gT := gT_mem (i := 859) (by decide +kernel) (by decide +kernel)
theorem lay_11_2 : u_lay RX11 TX11 2 ∈ gT := gT_mem (i := 861) (by decide +kernel) (by decide +kernel)
theorem lay_11_3 : u_lay RX11 TX11 3 ∈ gT := gT_mem (i := 863) (by decide +kernel) (by decide +kernel)
theorem lay_11_4 : u_lay RX11 TX11 4 ∈ gT := gT_mem (i := 865) (by decide +kernel) (by decide +kernel)
theorem lay_11_5 : u_lay RX11 TX11 5 ∈ gT := gT_mem (i := 867) (by decide +kernel) (by decide +kernel)
theorem lay_11_6 : u_lay RX11 TX11 6 ∈ gT := gT_mem (i := 869) (by decide +kernel) (by decide +kernel)
theorem lay_11_7 : u_lay RX11 TX11 7 ∈ gT := gT_mem (i := 871) (by decide +kernel) (by decide +kernel)
theorem lay_11_8 : u_lay RX11 TX11 8 ∈ gT := gT_mem (i := 873) (by decide +kernel) (by decide +kernel)
theorem lay_11_9 : u_lay RX11 TX11 9 ∈ gT := gT_mem (i := 875) (by decide +kernel) (by decide +kernel)
theorem lay_11_10 : u_lay RX11 TX11 10 ∈ gT := gT_mem (i := 877) (by decide +kernel) (by decide +kernel)
theorem lay_11_11 : u_lay RX11 TX11 11 ∈ gT := gT_mem (i := 879) (by decide +kernel) (by decide +kernel)
theorem lay_11_12 : u_lay RX11 TX11 12 ∈ gT := gT_mem (i := 881) (by decide +kernel) (by decide +kernel)
theorem lay_11_13 : u_lay RX11 TX11 13 ∈ gT := gT_mem (i := 883) (by decide +kernel) (by decide +kernel)
theorem lay_11_14 : u_lay RX11 TX11 14 ∈ gT := gT_mem (i := 885) (by decide +kernel) (by decide +kernel)
theorem lay_11_15 : u_lay RX11 TX11 15 ∈ gT := gT_mem (i := 887) (by decide +kernel) (by decide +kernel)
theorem lay_11_16 : u_lay RX11 TX11 16 ∈ gT := gT_mem (i := 889) (by decide +kernel) (by decide +kernel)
theorem lay_11_17 : u_lay RX11 TX11 17 ∈ gT := gT_mem (i := 891) (by decide +kernel) (by decide +kernel)
theorem lay_11_18 : u_lay RX11 TX11 18 ∈ gT := gT_mem (i := 893) (by decide +kernel) (by decide +kernel)
theorem lay_11_19 : u_lay RX11 TX11 19 ∈ gT := gT_mem (i := 895) (by decide +kernel) (by decide +kernel)
theorem lay_11_20 : u_lay RX11 TX11 20 ∈ gT := gT_mem (i := 897) (by decide +kernel) (by decide +kernel)
theorem lay_11_21 : u_lay RX11 TX11 21 ∈ gT := gT_mem (i := 899) (by decide +kernel) (by decide +kernel)
theorem lay_11_22 : u_lay RX11 TX11 22 ∈ gT := gT_mem (i := 901) (by decide +kernel) (by decide +kernel)
theorem lay_11_23 : u_lay RX11 TX11 23 ∈ gT := gT_mem (i := 903) (by decide +kernel) (by decide +kernel)
theorem lay_11_24 : u_lay RX11 TX11 24 ∈ gT := gT_mem (i := 905) (by decide +kernel) (by decide +kernel)
theorem lay_11_25 : u_lay RX11 TX11 25 ∈ gT := gT_mem (i := 907) (by decide +kernel) (by decide +kernel)
theorem lay_11_26 : u_lay RX11 TX11 26 ∈ gT := gT_mem (i := 909) (by decide +kernel) (by decide +kernel)
theorem lay_11_27 : u_lay RX11 TX11 27 ∈ gT := gT_mem (i := 911) (by decide +kernel) (by decide +kernel)
theorem lays_11 : ∀ w ∈ wsX110, w ∈ gT := by
  intro w hw
  obtain ⟨k, hk, rfl⟩ := List.mem_map.mp hw
  have hk := List.mem_range.mp hk
  match k, hk with
  | 0, _ => exact lay_11_0
  | 1, _ => exact lay_11_1
  | 2, _ => exact lay_11_2
  | 3, _ => exact lay_11_3
  | 4, _ => exact lay_11_4
  | 5, _ => exact lay_11_5
  | 6, _ => exact lay_11_6
  | 7, _ => exact lay_11_7
  | 8, _ => exact lay_11_8
  | 9, _ => exact lay_11_9
  | 10, _ => exact lay_11_10
  | 11, _ => exact lay_11_11
  | 12, _ => exact lay_11_12
  | 13, _ => exact lay_11_13
  | 14, _ => exact lay_11_14
  | 15, _ => exact lay_11_15
  | 16, _ => exact lay_11_16
  | 17, _ => exact lay_11_17
  | 18, _ => exact lay_11_18
  | 19, _ => exact lay_11_19
  | 20, _ => exact lay_11_20
  | 21, _ => exact lay_11_21
  | 22, _ => exact lay_11_22
  | 23, _ => exact lay_11_23
  | 24, _ => exact lay_11_24
  | 25, _ => exact lay_11_25
  | 26, _ => exact lay_11_26
  | 27, _ => exact lay_11_27
  | k + 28, hk => exact absurd hk (by omega)
theorem cf_11 : ClF 11 RX11 TX11 28 := ⟨by decide, rfl, tyX11_ok, nmX11, lays_11⟩
theorem sm_11 : ∀ k, k < 28 → smallT (tyC 11 k) := by
  intro k hk
  match k, hk with
  | 0, _ => exact ⟨by decide, by decide, by decide, by decide, by decide, by decide⟩
  | 1, _ => exact ⟨by decide, by decide, by decide, by decide, by decide, by decide⟩
  | 2, _ => exact ⟨by decide, by decide, by decide, by decide, by decide, by decide⟩
  | 3, _ => exact ⟨by decide, by decide, by decide, by decide, by decide, by decide⟩
  | 4, _ => exact ⟨by decide, by decide, by decide, by decide, by decide, by decide⟩
  | 5, _ => exact ⟨by decide, by decide, by decide, by decide, by decide, by decide⟩
  | 6, _ => exact ⟨by decide, by decide, by decide, by decide, by decide, by decide⟩
  | 7, _ => exact ⟨by decide, by decide, by decide, by decide, by decide, by decide⟩
  | 8, _ => exact ⟨by decide, by decide, by decide, by decide, by decide, by decide⟩
  | 9, _ => exact ⟨by decide, by decide, by decide, by decide, by decide, by decide⟩
  | 10, _ => exact ⟨by decide, by decide, by decide, by decide, by decide, by decide⟩
  | 11, _ => exact ⟨by decide, by decide, by decide, by decide, by decide, by decide⟩
  | 12, _ => exact ⟨by decide, by decide, by decide, by decide, by decide, by decide⟩
  | 13, _ => exact ⟨by decide, by decide, by decide, by decide, by decide, by decide⟩
  | 14, _ => exact ⟨by decide, by decide, by decide, by decide, by decide, by decide⟩
  | 15, _ => exact ⟨by decide, by decide, by decide, by decide, by decide, by decide⟩
  | 16, _ => exact ⟨by decide, by decide, by decide, by decide, by decide, by decide⟩
  | 17, _ => exact ⟨by decide, by decide, by decide, by decide, by decide, by decide⟩
  | 18, _ => exact ⟨by decide, by decide, by decide, by decide, by decide, by decide⟩
  | 19, _ => exact ⟨by decide, by decide, by decide, by decide, by decide, by decide⟩
  | 20, _ => exact ⟨by decide, by decide, by decide, by decide, by decide, by decide⟩
  | 21, _ => exact ⟨by decide, by decide, by decide, by decide, by decide, by decide⟩
  | 22, _ => exact ⟨by decide, by decide, by decide, by decide, by decide, by decide⟩
  | 23, _ => exact ⟨by decide, by decide, by decide, by decide, by decide, by decide⟩
  | 24, _ => exact ⟨by decide, by decide, by decide, by decide, by decide, by decide⟩
  | 25, _ => exact ⟨by decide, by decide, by decide, by decide, by decide, by decide⟩
  | 26, _ => exact ⟨by decide, by decide, by decide, by decide, by decide, by decide⟩
  | 27, _ => exact ⟨by decide, by decide, by decide, by decide, by decide, by decide⟩
  | k + 28, hk => exact absurd hk (by omega)
theorem St_0 : St 0 10 12 := St_dec (by decide +kernel)
theorem St_1 : St 1 9 2 := St_dec (by decide +kernel)
theorem St_2 : St 2 20 150 := St_dec (by decide +kernel)
theorem St_3 : St 3 4 4 := St_dec (by decide +kernel)
theorem St_4 : St 4 3 4 := St_dec (by decide +kernel)
theorem St_5 : St 5 1 6 := St_dec (by decide +kernel)
theorem St_6 : St 6 23 8 := St_dec (by decide +kernel)
theorem St_7 : St 7 3 4 := St_dec (by decide +kernel)
theorem St_8 : St 8 1 6 := St_dec (by decide +kernel)
theorem St_9 : St 9 23 8 := St_dec (by decide +kernel)
theorem St_10 : St 10 6 8 := St_dec (by decide +kernel)
theorem St_11 : St 11 8 3 := St_dec (by decide +kernel)
theorem St_13 : St 13 8 3 := St_dec (by decide +kernel)
theorem St_15 : St 15 8 3 := St_dec (by decide +kernel)
theorem St_17 : St 17 5 1 := St_dec (by decide +kernel)
theorem St_18 : St 18 7 5 := St_dec (by decide +kernel)
theorem St_47 : St 47 7 5 := St_dec (by decide +kernel)
theorem St_76 : St 76 2 4 := St_dec (by decide +kernel)
theorem St_77 : St 77 7 5 := St_dec (by decide +kernel)
theorem St_106 : St 106 24 8 := St_dec (by decide +kernel)
theorem St_339 : St 339 7 5 := St_dec (by decide +kernel)
theorem St_368 : St 368 7 5 := St_dec (by decide +kernel)
theorem St_397 : St 397 8 3 := St_dec (by decide +kernel)
theorem St_399 : St 399 11 28 := St_dec (by decide +kernel)
theorem St_400 : St 400 20 48 := St_dec (by decide +kernel)
theorem St_401 : St 401 20 48 := St_dec (by decide +kernel)
theorem St_402 : St 402 20 163 := St_dec (by decide +kernel)
theorem St_403 : St 403 20 1304 := St_dec (by decide +kernel)
theorem St_404 : St 404 20 326 := St_dec (by decide +kernel)
theorem St_405 : St 405 21 2 := St_dec (by decide +kernel)
theorem St_406 : St 406 20 163 := St_dec (by decide +kernel)
theorem St_407 : St 407 20 6 := St_dec (by decide +kernel)
theorem St_408 : St 408 20 6 := St_dec (by decide +kernel)
theorem St_409 : St 409 20 6 := St_dec (by decide +kernel)
theorem St_410 : St 410 20 150 := St_dec (by decide +kernel)
theorem St_411 : St 411 21 800 := St_dec (by decide +kernel)
theorem St_412 : St 412 20 36 := St_dec (by decide +kernel)
theorem St_413 : St 413 20 5 := St_dec (by decide +kernel)
theorem St_414 : St 414 20 5 := St_dec (by decide +kernel)
theorem fx_10_0 {n N : Nat} {μ : Mem} {a : Int} (f : FX n μ) (h : St a 10 N) : μ a 0 = 1 := by rw [FX_at f h (by decide)]; unfold FV; rw [h.2.2]; rfl
theorem fx_10_1 {n N : Nat} {μ : Mem} {a : Int} (f : FX n μ) (h : St a 10 N) : μ a 1 = 3 := by rw [FX_at f h (by decide)]; unfold FV; rw [h.2.2]; rfl
theorem fx_10_2 {n N : Nat} {μ : Mem} {a : Int} (f : FX n μ) (h : St a 10 N) : μ a 2 = 7 := by rw [FX_at f h (by decide)]; unfold FV; rw [h.2.2]; rfl
theorem fx_10_3 {n N : Nat} {μ : Mem} {a : Int} (f : FX n μ) (h : St a 10 N) : μ a 3 = 10 := by rw [FX_at f h (by decide)]; unfold FV; rw [h.2.2]; rfl
theorem fx_10_4 {n N : Nat} {μ : Mem} {a : Int} (f : FX n μ) (h : St a 10 N) : μ a 4 = 17 := by rw [FX_at f h (by decide)]; unfold FV; rw [h.2.2]; rfl
theorem fx_10_5 {n N : Nat} {μ : Mem} {a : Int} (f : FX n μ) (h : St a 10 N) : μ a 5 = 18 := by rw [FX_at f h (by decide)]; unfold FV; rw [h.2.2]; rfl
theorem fx_10_6 {n N : Nat} {μ : Mem} {a : Int} (f : FX n μ) (h : St a 10 N) : μ a 6 = 47 := by rw [FX_at f h (by decide)]; unfold FV; rw [h.2.2]; rfl
theorem fx_10_7 {n N : Nat} {μ : Mem} {a : Int} (f : FX n μ) (h : St a 10 N) : μ a 7 = 76 := by rw [FX_at f h (by decide)]; unfold FV; rw [h.2.2]; rfl
theorem fx_10_8 {n N : Nat} {μ : Mem} {a : Int} (f : FX n μ) (h : St a 10 N) : μ a 8 = 339 := by rw [FX_at f h (by decide)]; unfold FV; rw [h.2.2]; rfl
theorem fx_10_9 {n N : Nat} {μ : Mem} {a : Int} (f : FX n μ) (h : St a 10 N) : μ a 9 = 368 := by rw [FX_at f h (by decide)]; unfold FV; rw [h.2.2]; rfl
theorem fx_10_10 {n N : Nat} {μ : Mem} {a : Int} (f : FX n μ) (h : St a 10 N) : μ a 10 = 397 := by rw [FX_at f h (by decide)]; unfold FV; rw [h.2.2]; rfl
theorem fx_11_3 {n N : Nat} {μ : Mem} {a : Int} (f : FX n μ) (h : St a 11 N) : μ a 3 = 400 := by rw [FX_at f h (by decide)]; unfold FV; rw [h.2.2]; rfl
theorem fx_11_6 {n N : Nat} {μ : Mem} {a : Int} (f : FX n μ) (h : St a 11 N) : μ a 6 = 401 := by rw [FX_at f h (by decide)]; unfold FV; rw [h.2.2]; rfl
theorem fx_11_7 {n N : Nat} {μ : Mem} {a : Int} (f : FX n μ) (h : St a 11 N) : μ a 7 = 402 := by rw [FX_at f h (by decide)]; unfold FV; rw [h.2.2]; rfl
theorem fx_11_9 {n N : Nat} {μ : Mem} {a : Int} (f : FX n μ) (h : St a 11 N) : μ a 9 = 403 := by rw [FX_at f h (by decide)]; unfold FV; rw [h.2.2]; rfl
theorem fx_11_10 {n N : Nat} {μ : Mem} {a : Int} (f : FX n μ) (h : St a 11 N) : μ a 10 = 404 := by rw [FX_at f h (by decide)]; unfold FV; rw [h.2.2]; rfl
theorem fx_11_11 {n N : Nat} {μ : Mem} {a : Int} (f : FX n μ) (h : St a 11 N) : μ a 11 = 405 := by rw [FX_at f h (by decide)]; unfold FV; rw [h.2.2]; rfl
theorem fx_11_12 {n N : Nat} {μ : Mem} {a : Int} (f : FX n μ) (h : St a 11 N) : μ a 12 = 406 := by rw [FX_at f h (by decide)]; unfold FV; rw [h.2.2]; rfl
theorem fx_11_14 {n N : Nat} {μ : Mem} {a : Int} (f : FX n μ) (h : St a 11 N) : μ a 14 = 407 := by rw [FX_at f h (by decide)]; unfold FV; rw [h.2.2]; rfl
theorem fx_11_15 {n N : Nat} {μ : Mem} {a : Int} (f : FX n μ) (h : St a 11 N) : μ a 15 = 408 := by rw [FX_at f h (by decide)]; unfold FV; rw [h.2.2]; rfl
theorem fx_11_16 {n N : Nat} {μ : Mem} {a : Int} (f : FX n μ) (h : St a 11 N) : μ a 16 = 409 := by rw [FX_at f h (by decide)]; unfold FV; rw [h.2.2]; rfl
theorem fx_11_18 {n N : Nat} {μ : Mem} {a : Int} (f : FX n μ) (h : St a 11 N) : μ a 18 = 410 := by rw [FX_at f h (by decide)]; unfold FV; rw [h.2.2]; rfl
theorem fx_11_22 {n N : Nat} {μ : Mem} {a : Int} (f : FX n μ) (h : St a 11 N) : μ a 22 = 411 := by rw [FX_at f h (by decide)]; unfold FV; rw [h.2.2]; rfl
theorem fx_11_23 {n N : Nat} {μ : Mem} {a : Int} (f : FX n μ) (h : St a 11 N) : μ a 23 = 412 := by rw [FX_at f h (by decide)]; unfold FV; rw [h.2.2]; rfl
theorem fx_11_25 {n N : Nat} {μ : Mem} {a : Int} (f : FX n μ) (h : St a 11 N) : μ a 25 = 413 := by rw [FX_at f h (by decide)]; unfold FV; rw [h.2.2]; rfl
theorem fx_11_26 {n N : Nat} {μ : Mem} {a : Int} (f : FX n μ) (h : St a 11 N) : μ a 26 = 414 := by rw [FX_at f h (by decide)]; unfold FV; rw [h.2.2]; rfl
def Y_X0_init : MD := (yX0_init, cX0_init, 2, none, 2, 42, 2, 803)
theorem mc_X0_init : MC Y_X0_init 1 := ⟨gT_mem (i := 251) (by decide +kernel) (by decide +kernel), gT_mem (i := 71) (by decide +kernel) (by decide +kernel), by decide +kernel⟩
theorem mi_X0_init : Cond.instanceMethod yX0_init ∈ gT := gT_mem (i := 250) (by decide +kernel) (by decide +kernel)
def Y_X0_start : MD := (yX0_start, cX0_start, 6, none, 2, 41, 0, 0)
theorem mc_X0_start : MC Y_X0_start 5 := ⟨gT_mem (i := 535) (by decide +kernel) (by decide +kernel), gT_mem (i := 71) (by decide +kernel) (by decide +kernel), by decide +kernel⟩
theorem mi_X0_start : Cond.instanceMethod yX0_start ∈ gT := gT_mem (i := 533) (by decide +kernel) (by decide +kernel)
theorem ms_X0_start : Cond.selects RX0 yX0_start yX0_start ∈ gT := gT_mem (i := 534) (by decide +kernel) (by decide +kernel)
def Y_X0_copyFrom : MD := (yX0_copyFrom, cX0_copyFrom, 2, none, 3, 69, 0, 0)
theorem mc_X0_copyFrom : MC Y_X0_copyFrom 1 := ⟨gT_mem (i := 531) (by decide +kernel) (by decide +kernel), gT_mem (i := 71) (by decide +kernel) (by decide +kernel), by decide +kernel⟩
theorem mi_X0_copyFrom : Cond.instanceMethod yX0_copyFrom ∈ gT := gT_mem (i := 529) (by decide +kernel) (by decide +kernel)
theorem ms_X0_copyFrom : Cond.selects RX0 yX0_copyFrom yX0_copyFrom ∈ gT := gT_mem (i := 530) (by decide +kernel) (by decide +kernel)
def Y_X0_standing : MD := (yX0_standing, cX0_standing, 2, (some .int), 2, 43, 0, 0)
theorem mc_X0_standing : MC Y_X0_standing 1 := ⟨gT_mem (i := 571) (by decide +kernel) (by decide +kernel), gT_mem (i := 71) (by decide +kernel) (by decide +kernel), by decide +kernel⟩
theorem mi_X0_standing : Cond.instanceMethod yX0_standing ∈ gT := gT_mem (i := 569) (by decide +kernel) (by decide +kernel)
theorem ms_X0_standing : Cond.selects RX0 yX0_standing yX0_standing ∈ gT := gT_mem (i := 570) (by decide +kernel) (by decide +kernel)
def Y_X0_lastNode : MD := (yX0_lastNode, cX0_lastNode, 1, (some .int), 1, 23, 0, 0)
theorem mc_X0_lastNode : MC Y_X0_lastNode 0 := ⟨gT_mem (i := 575) (by decide +kernel) (by decide +kernel), gT_mem (i := 71) (by decide +kernel) (by decide +kernel), by decide +kernel⟩
theorem mi_X0_lastNode : Cond.instanceMethod yX0_lastNode ∈ gT := gT_mem (i := 573) (by decide +kernel) (by decide +kernel)
theorem ms_X0_lastNode : Cond.selects RX0 yX0_lastNode yX0_lastNode ∈ gT := gT_mem (i := 574) (by decide +kernel) (by decide +kernel)
def Y_X0_lastThere : MD := (yX0_lastThere, cX0_lastThere, 1, (some .int), 1, 23, 0, 0)
theorem mc_X0_lastThere : MC Y_X0_lastThere 0 := ⟨gT_mem (i := 603) (by decide +kernel) (by decide +kernel), gT_mem (i := 71) (by decide +kernel) (by decide +kernel), by decide +kernel⟩
theorem mi_X0_lastThere : Cond.instanceMethod yX0_lastThere ∈ gT := gT_mem (i := 601) (by decide +kernel) (by decide +kernel)
theorem ms_X0_lastThere : Cond.selects RX0 yX0_lastThere yX0_lastThere ∈ gT := gT_mem (i := 602) (by decide +kernel) (by decide +kernel)
def Y_X0_property : MD := (yX0_property, cX0_property, 3, (some .int), 3, 64, 0, 0)
theorem mc_X0_property : MC Y_X0_property 2 := ⟨gT_mem (i := 742) (by decide +kernel) (by decide +kernel), gT_mem (i := 71) (by decide +kernel) (by decide +kernel), by decide +kernel⟩
theorem mi_X0_property : Cond.instanceMethod yX0_property ∈ gT := gT_mem (i := 740) (by decide +kernel) (by decide +kernel)
theorem ms_X0_property : Cond.selects RX0 yX0_property yX0_property ∈ gT := gT_mem (i := 741) (by decide +kernel) (by decide +kernel)
def Y_X0_drop : MD := (yX0_drop, cX0_drop, 2, none, 3, 65, 0, 0)
theorem mc_X0_drop : MC Y_X0_drop 1 := ⟨gT_mem (i := 673) (by decide +kernel) (by decide +kernel), gT_mem (i := 71) (by decide +kernel) (by decide +kernel), by decide +kernel⟩
theorem mi_X0_drop : Cond.instanceMethod yX0_drop ∈ gT := gT_mem (i := 671) (by decide +kernel) (by decide +kernel)
theorem ms_X0_drop : Cond.selects RX0 yX0_drop yX0_drop ∈ gT := gT_mem (i := 672) (by decide +kernel) (by decide +kernel)
def Y_X0_giveUpHopsToCome : MD := (yX0_giveUpHopsToCome, cX0_giveUpHopsToCome, 2, none, 2, 44, 0, 0)
theorem mc_X0_giveUpHopsToCome : MC Y_X0_giveUpHopsToCome 1 := ⟨gT_mem (i := 594) (by decide +kernel) (by decide +kernel), gT_mem (i := 71) (by decide +kernel) (by decide +kernel), by decide +kernel⟩
theorem mi_X0_giveUpHopsToCome : Cond.instanceMethod yX0_giveUpHopsToCome ∈ gT := gT_mem (i := 592) (by decide +kernel) (by decide +kernel)
theorem ms_X0_giveUpHopsToCome : Cond.selects RX0 yX0_giveUpHopsToCome yX0_giveUpHopsToCome ∈ gT := gT_mem (i := 593) (by decide +kernel) (by decide +kernel)
def Y_X0_hopsOnTheirWay : MD := (yX0_hopsOnTheirWay, cX0_hopsOnTheirWay, 2, (some .int), 1, 23, 0, 0)
theorem mc_X0_hopsOnTheirWay : MC Y_X0_hopsOnTheirWay 1 := ⟨gT_mem (i := 598) (by decide +kernel) (by decide +kernel), gT_mem (i := 71) (by decide +kernel) (by decide +kernel), by decide +kernel⟩
theorem mi_X0_hopsOnTheirWay : Cond.instanceMethod yX0_hopsOnTheirWay ∈ gT := gT_mem (i := 597) (by decide +kernel) (by decide +kernel)
theorem ms_X0_hopsOnTheirWay : Cond.selects RX0 yX0_hopsOnTheirWay yX0_hopsOnTheirWay ∈ gT := gT_mem (i := 11) (by decide +kernel) (by decide +kernel)
def Y_X0_arrive : MD := (yX0_arrive, cX0_arrive, 3, none, 3, 63, 0, 0)
theorem mc_X0_arrive : MC Y_X0_arrive 1 := ⟨gT_mem (i := 686) (by decide +kernel) (by decide +kernel), gT_mem (i := 71) (by decide +kernel) (by decide +kernel), by decide +kernel⟩
theorem mi_X0_arrive : Cond.instanceMethod yX0_arrive ∈ gT := gT_mem (i := 684) (by decide +kernel) (by decide +kernel)
theorem ms_X0_arrive : Cond.selects RX0 yX0_arrive yX0_arrive ∈ gT := gT_mem (i := 685) (by decide +kernel) (by decide +kernel)
def Y_X0_loses : MD := (yX0_loses, cX0_loses, 4, (some .boolean), 2, 44, 0, 0)
theorem mc_X0_loses : MC Y_X0_loses 2 := ⟨gT_mem (i := 703) (by decide +kernel) (by decide +kernel), gT_mem (i := 71) (by decide +kernel) (by decide +kernel), by decide +kernel⟩
theorem mi_X0_loses : Cond.instanceMethod yX0_loses ∈ gT := gT_mem (i := 701) (by decide +kernel) (by decide +kernel)
theorem ms_X0_loses : Cond.selects RX0 yX0_loses yX0_loses ∈ gT := gT_mem (i := 702) (by decide +kernel) (by decide +kernel)
def Y_X0_takes : MD := (yX0_takes, cX0_takes, 4, (some .boolean), 1, 23, 0, 0)
theorem mc_X0_takes : MC Y_X0_takes 2 := ⟨gT_mem (i := 761) (by decide +kernel) (by decide +kernel), gT_mem (i := 71) (by decide +kernel) (by decide +kernel), by decide +kernel⟩
theorem mi_X0_takes : Cond.instanceMethod yX0_takes ∈ gT := gT_mem (i := 759) (by decide +kernel) (by decide +kernel)
theorem ms_X0_takes : Cond.selects RX0 yX0_takes yX0_takes ∈ gT := gT_mem (i := 760) (by decide +kernel) (by decide +kernel)
def Y_X0_standsInTheWayOf : MD := (yX0_standsInTheWayOf, cX0_standsInTheWayOf, 5, (some .boolean), 2, 44, 0, 0)
theorem mc_X0_standsInTheWayOf : MC Y_X0_standsInTheWayOf 2 := ⟨gT_mem (i := 656) (by decide +kernel) (by decide +kernel), gT_mem (i := 71) (by decide +kernel) (by decide +kernel), by decide +kernel⟩
theorem mi_X0_standsInTheWayOf : Cond.instanceMethod yX0_standsInTheWayOf ∈ gT := gT_mem (i := 654) (by decide +kernel) (by decide +kernel)
theorem ms_X0_standsInTheWayOf : Cond.selects RX0 yX0_standsInTheWayOf yX0_standsInTheWayOf ∈ gT := gT_mem (i := 655) (by decide +kernel) (by decide +kernel)
def Y_X1_init : MD := (yX1_init, cX1_init, 7, none, 1, 20, 0, 0)
theorem mc_X1_init : MC Y_X1_init 6 := ⟨gT_mem (i := 115) (by decide +kernel) (by decide +kernel), gT_mem (i := 65) (by decide +kernel) (by decide +kernel), by decide +kernel⟩
theorem mi_X1_init : Cond.instanceMethod yX1_init ∈ gT := gT_mem (i := 114) (by decide +kernel) (by decide +kernel)
def Y_X1_ticksFor : MD := (yX1_ticksFor, cX1_ticksFor, 2, (some .int), 0, 0, 0, 0)
theorem mc_X1_ticksFor : MC Y_X1_ticksFor 1 := ⟨gT_mem (i := 638) (by decide +kernel) (by decide +kernel), gT_mem (i := 65) (by decide +kernel) (by decide +kernel), by decide +kernel⟩
theorem mi_X1_ticksFor : Cond.instanceMethod yX1_ticksFor ∈ gT := gT_mem (i := 636) (by decide +kernel) (by decide +kernel)
theorem ms_X1_ticksFor : Cond.selects RX1 yX1_ticksFor yX1_ticksFor ∈ gT := gT_mem (i := 637) (by decide +kernel) (by decide +kernel)
def Y_X1_property : MD := (yX1_property, cX1_property, 2, (some .int), 0, 0, 0, 0)
theorem mc_X1_property : MC Y_X1_property 1 := ⟨gT_mem (i := 499) (by decide +kernel) (by decide +kernel), gT_mem (i := 65) (by decide +kernel) (by decide +kernel), by decide +kernel⟩
theorem mi_X1_property : Cond.instanceMethod yX1_property ∈ gT := gT_mem (i := 497) (by decide +kernel) (by decide +kernel)
theorem ms_X1_property : Cond.selects RX1 yX1_property yX1_property ∈ gT := gT_mem (i := 498) (by decide +kernel) (by decide +kernel)
def Y_X2_init : MD := (yX2_init, cX2_init, 3, none, 4, 85, 262, 65897)
theorem mc_X2_init : MC Y_X2_init 1 := ⟨gT_mem (i := 319) (by decide +kernel) (by decide +kernel), gT_mem (i := 72) (by decide +kernel) (by decide +kernel), by decide +kernel⟩
theorem mi_X2_init : Cond.instanceMethod yX2_init ∈ gT := gT_mem (i := 318) (by decide +kernel) (by decide +kernel)
def Y_X2_forgetAll : MD := (yX2_forgetAll, cX2_forgetAll, 1, none, 0, 0, 0, 0)
theorem mc_X2_forgetAll : MC Y_X2_forgetAll 0 := ⟨gT_mem (i := 477) (by decide +kernel) (by decide +kernel), gT_mem (i := 72) (by decide +kernel) (by decide +kernel), by decide +kernel⟩
theorem mi_X2_forgetAll : Cond.instanceMethod yX2_forgetAll ∈ gT := gT_mem (i := 475) (by decide +kernel) (by decide +kernel)
theorem ms_X2_forgetAll : Cond.selects RX2 yX2_forgetAll yX2_forgetAll ∈ gT := gT_mem (i := 476) (by decide +kernel) (by decide +kernel)
def Y_X2_remember : MD := (yX2_remember, cX2_remember, 2, none, 5, 112, 0, 0)
theorem mc_X2_remember : MC Y_X2_remember 1 := ⟨gT_mem (i := 515) (by decide +kernel) (by decide +kernel), gT_mem (i := 72) (by decide +kernel) (by decide +kernel), by decide +kernel⟩
theorem mi_X2_remember : Cond.instanceMethod yX2_remember ∈ gT := gT_mem (i := 513) (by decide +kernel) (by decide +kernel)
theorem ms_X2_remember : Cond.selects RX2 yX2_remember yX2_remember ∈ gT := gT_mem (i := 514) (by decide +kernel) (by decide +kernel)
def Y_X2_takeBack : MD := (yX2_takeBack, cX2_takeBack, 2, none, 5, 112, 0, 0)
theorem mc_X2_takeBack : MC Y_X2_takeBack 1 := ⟨gT_mem (i := 734) (by decide +kernel) (by decide +kernel), gT_mem (i := 72) (by decide +kernel) (by decide +kernel), by decide +kernel⟩
theorem mi_X2_takeBack : Cond.instanceMethod yX2_takeBack ∈ gT := gT_mem (i := 732) (by decide +kernel) (by decide +kernel)
theorem ms_X2_takeBack : Cond.selects RX2 yX2_takeBack yX2_takeBack ∈ gT := gT_mem (i := 733) (by decide +kernel) (by decide +kernel)
def Y_X2_slotAt : MD := (yX2_slotAt, cX2_slotAt, 3, (some (.object "ContactWays$Situation")), 0, 0, 0, 0)
theorem mc_X2_slotAt : MC Y_X2_slotAt 1 := ⟨gT_mem (i := 519) (by decide +kernel) (by decide +kernel), gT_mem (i := 72) (by decide +kernel) (by decide +kernel), by decide +kernel⟩
theorem mi_X2_slotAt : Cond.instanceMethod yX2_slotAt ∈ gT := gT_mem (i := 518) (by decide +kernel) (by decide +kernel)
theorem ms_X2_slotAt : Cond.selects RX2 yX2_slotAt yX2_slotAt ∈ gT := gT_mem (i := 8) (by decide +kernel) (by decide +kernel)
def Y_X3_init : MD := (yX3_init, cX3_init, 1, none, 2, 46, 2, 14)
theorem mc_X3_init : MC Y_X3_init 0 := ⟨gT_mem (i := 109) (by decide +kernel) (by decide +kernel), gT_mem (i := 64) (by decide +kernel) (by decide +kernel), by decide +kernel⟩
theorem mi_X3_init : Cond.instanceMethod yX3_init ∈ gT := gT_mem (i := 108) (by decide +kernel) (by decide +kernel)
def Y_X3_reset : MD := (yX3_reset, cX3_reset, 1, none, 0, 0, 0, 0)
theorem mc_X3_reset : MC Y_X3_reset 0 := ⟨gT_mem (i := 411) (by decide +kernel) (by decide +kernel), gT_mem (i := 64) (by decide +kernel) (by decide +kernel), by decide +kernel⟩
theorem mi_X3_reset : Cond.instanceMethod yX3_reset ∈ gT := gT_mem (i := 409) (by decide +kernel) (by decide +kernel)
theorem ms_X3_reset : Cond.selects RX3 yX3_reset yX3_reset ∈ gT := gT_mem (i := 410) (by decide +kernel) (by decide +kernel)
def Y_X3_hasNode : MD := (yX3_hasNode, cX3_hasNode, 2, (some .boolean), 0, 0, 0, 0)
theorem mc_X3_hasNode : MC Y_X3_hasNode 1 := ⟨gT_mem (i := 511) (by decide +kernel) (by decide +kernel), gT_mem (i := 64) (by decide +kernel) (by decide +kernel), by decide +kernel⟩
theorem mi_X3_hasNode : Cond.instanceMethod yX3_hasNode ∈ gT := gT_mem (i := 509) (by decide +kernel) (by decide +kernel)
theorem ms_X3_hasNode : Cond.selects RX3 yX3_hasNode yX3_hasNode ∈ gT := gT_mem (i := 510) (by decide +kernel) (by decide +kernel)
def Y_X3_hasContact : MD := (yX3_hasContact, cX3_hasContact, 2, (some .boolean), 0, 0, 0, 0)
theorem mc_X3_hasContact : MC Y_X3_hasContact 1 := ⟨gT_mem (i := 490) (by decide +kernel) (by decide +kernel), gT_mem (i := 64) (by decide +kernel) (by decide +kernel), by decide +kernel⟩
theorem mi_X3_hasContact : Cond.instanceMethod yX3_hasContact ∈ gT := gT_mem (i := 488) (by decide +kernel) (by decide +kernel)
theorem ms_X3_hasContact : Cond.selects RX3 yX3_hasContact yX3_hasContact ∈ gT := gT_mem (i := 489) (by decide +kernel) (by decide +kernel)
def Y_X3_hasRoom : MD := (yX3_hasRoom, cX3_hasRoom, 1, (some .boolean), 0, 0, 0, 0)
theorem mc_X3_hasRoom : MC Y_X3_hasRoom 0 := ⟨gT_mem (i := 450) (by decide +kernel) (by decide +kernel), gT_mem (i := 64) (by decide +kernel) (by decide +kernel), by decide +kernel⟩
theorem mi_X3_hasRoom : Cond.instanceMethod yX3_hasRoom ∈ gT := gT_mem (i := 448) (by decide +kernel) (by decide +kernel)
theorem ms_X3_hasRoom : Cond.selects RX3 yX3_hasRoom yX3_hasRoom ∈ gT := gT_mem (i := 449) (by decide +kernel) (by decide +kernel)
def Y_X3_addContact : MD := (yX3_addContact, cX3_addContact, 2, none, 0, 0, 0, 0)
theorem mc_X3_addContact : MC Y_X3_addContact 1 := ⟨gT_mem (i := 460) (by decide +kernel) (by decide +kernel), gT_mem (i := 64) (by decide +kernel) (by decide +kernel), by decide +kernel⟩
theorem mi_X3_addContact : Cond.instanceMethod yX3_addContact ∈ gT := gT_mem (i := 458) (by decide +kernel) (by decide +kernel)
theorem ms_X3_addContact : Cond.selects RX3 yX3_addContact yX3_addContact ∈ gT := gT_mem (i := 459) (by decide +kernel) (by decide +kernel)
def Y_X3_contactAt : MD := (yX3_contactAt, cX3_contactAt, 3, (some (.object "ContactWays$Contact")), 0, 0, 0, 0)
theorem mc_X3_contactAt : MC Y_X3_contactAt 1 := ⟨gT_mem (i := 468) (by decide +kernel) (by decide +kernel), gT_mem (i := 64) (by decide +kernel) (by decide +kernel), by decide +kernel⟩
theorem mi_X3_contactAt : Cond.instanceMethod yX3_contactAt ∈ gT := gT_mem (i := 466) (by decide +kernel) (by decide +kernel)
theorem ms_X3_contactAt : Cond.selects RX3 yX3_contactAt yX3_contactAt ∈ gT := gT_mem (i := 467) (by decide +kernel) (by decide +kernel)
def Y_X3_copyFrom : MD := (yX3_copyFrom, cX3_copyFrom, 3, none, 1, 22, 0, 0)
theorem mc_X3_copyFrom : MC Y_X3_copyFrom 1 := ⟨gT_mem (i := 464) (by decide +kernel) (by decide +kernel), gT_mem (i := 64) (by decide +kernel) (by decide +kernel), by decide +kernel⟩
theorem mi_X3_copyFrom : Cond.instanceMethod yX3_copyFrom ∈ gT := gT_mem (i := 462) (by decide +kernel) (by decide +kernel)
theorem ms_X3_copyFrom : Cond.selects RX3 yX3_copyFrom yX3_copyFrom ∈ gT := gT_mem (i := 463) (by decide +kernel) (by decide +kernel)
def Y_X4_init : MD := (yX4_init, cX4_init, 2, none, 3, 66, 3, 18)
theorem mc_X4_init : MC Y_X4_init 1 := ⟨gT_mem (i := 103) (by decide +kernel) (by decide +kernel), gT_mem (i := 63) (by decide +kernel) (by decide +kernel), by decide +kernel⟩
theorem mi_X4_init : Cond.instanceMethod yX4_init ∈ gT := gT_mem (i := 102) (by decide +kernel) (by decide +kernel)
def Y_X4_readPlan : MD := (yX4_readPlan, cX4_readPlan, 2, (some .int), 5, 115, 150, 900)
theorem mc_X4_readPlan : MC Y_X4_readPlan 0 := ⟨gT_mem (i := 407) (by decide +kernel) (by decide +kernel), gT_mem (i := 63) (by decide +kernel) (by decide +kernel), by decide +kernel⟩
theorem mi_X4_readPlan : Cond.instanceMethod yX4_readPlan ∈ gT := gT_mem (i := 405) (by decide +kernel) (by decide +kernel)
theorem ms_X4_readPlan : Cond.selects RX4 yX4_readPlan yX4_readPlan ∈ gT := gT_mem (i := 406) (by decide +kernel) (by decide +kernel)
def Y_X4_readItem : MD := (yX4_readItem, cX4_readItem, 3, none, 4, 93, 1, 6)
theorem mc_X4_readItem : MC Y_X4_readItem 1 := ⟨gT_mem (i := 423) (by decide +kernel) (by decide +kernel), gT_mem (i := 63) (by decide +kernel) (by decide +kernel), by decide +kernel⟩
theorem mi_X4_readItem : Cond.instanceMethod yX4_readItem ∈ gT := gT_mem (i := 422) (by decide +kernel) (by decide +kernel)
theorem ms_X4_readItem : Cond.selects RX4 yX4_readItem yX4_readItem ∈ gT := gT_mem (i := 1) (by decide +kernel) (by decide +kernel)
def Y_X4_readNodes : MD := (yX4_readNodes, cX4_readNodes, 2, none, 3, 67, 0, 0)
theorem mc_X4_readNodes : MC Y_X4_readNodes 0 := ⟨gT_mem (i := 427) (by decide +kernel) (by decide +kernel), gT_mem (i := 63) (by decide +kernel) (by decide +kernel), by decide +kernel⟩
theorem mi_X4_readNodes : Cond.instanceMethod yX4_readNodes ∈ gT := gT_mem (i := 426) (by decide +kernel) (by decide +kernel)
theorem ms_X4_readNodes : Cond.selects RX4 yX4_readNodes yX4_readNodes ∈ gT := gT_mem (i := 2) (by decide +kernel) (by decide +kernel)
def Y_X4_readContact : MD := (yX4_readContact, cX4_readContact, 7, none, 3, 67, 1, 6)
theorem mc_X4_readContact : MC Y_X4_readContact 0 := ⟨gT_mem (i := 454) (by decide +kernel) (by decide +kernel), gT_mem (i := 63) (by decide +kernel) (by decide +kernel), by decide +kernel⟩
theorem mi_X4_readContact : Cond.instanceMethod yX4_readContact ∈ gT := gT_mem (i := 453) (by decide +kernel) (by decide +kernel)
theorem ms_X4_readContact : Cond.selects RX4 yX4_readContact yX4_readContact ∈ gT := gT_mem (i := 6) (by decide +kernel) (by decide +kernel)
def Y_X4_readNumber : MD := (yX4_readNumber, cX4_readNumber, 7, (some .int), 2, 41, 0, 0)
theorem mc_X4_readNumber : MC Y_X4_readNumber 3 := ⟨gT_mem (i := 431) (by decide +kernel) (by decide +kernel), gT_mem (i := 63) (by decide +kernel) (by decide +kernel), by decide +kernel⟩
theorem mi_X4_readNumber : Cond.instanceMethod yX4_readNumber ∈ gT := gT_mem (i := 430) (by decide +kernel) (by decide +kernel)
theorem ms_X4_readNumber : Cond.selects RX4 yX4_readNumber yX4_readNumber ∈ gT := gT_mem (i := 3) (by decide +kernel) (by decide +kernel)
def Y_X4_readSemicolon : MD := (yX4_readSemicolon, cX4_readSemicolon, 1, none, 2, 41, 0, 0)
theorem mc_X4_readSemicolon : MC Y_X4_readSemicolon 0 := ⟨gT_mem (i := 446) (by decide +kernel) (by decide +kernel), gT_mem (i := 63) (by decide +kernel) (by decide +kernel), by decide +kernel⟩
theorem mi_X4_readSemicolon : Cond.instanceMethod yX4_readSemicolon ∈ gT := gT_mem (i := 445) (by decide +kernel) (by decide +kernel)
theorem ms_X4_readSemicolon : Cond.selects RX4 yX4_readSemicolon yX4_readSemicolon ∈ gT := gT_mem (i := 5) (by decide +kernel) (by decide +kernel)
def Y_X4_skipBlanks : MD := (yX4_skipBlanks, cX4_skipBlanks, 1, none, 1, 21, 0, 0)
theorem mc_X4_skipBlanks : MC Y_X4_skipBlanks 0 := ⟨gT_mem (i := 415) (by decide +kernel) (by decide +kernel), gT_mem (i := 63) (by decide +kernel) (by decide +kernel), by decide +kernel⟩
theorem mi_X4_skipBlanks : Cond.instanceMethod yX4_skipBlanks ∈ gT := gT_mem (i := 414) (by decide +kernel) (by decide +kernel)
theorem ms_X4_skipBlanks : Cond.selects RX4 yX4_skipBlanks yX4_skipBlanks ∈ gT := gT_mem (i := 0) (by decide +kernel) (by decide +kernel)
def Y_X4_isDigit : MD := (yX4_isDigit, cX4_isDigit, 1, (some .boolean), 0, 0, 0, 0)
theorem mc_X4_isDigit : MC Y_X4_isDigit 1 := ⟨gT_mem (i := 434) (by decide +kernel) (by decide +kernel), gT_mem (i := 63) (by decide +kernel) (by decide +kernel), by decide +kernel⟩
theorem mt_X4_isDigit : Cond.static yX4_isDigit ∈ gT := gT_mem (i := 433) (by decide +kernel) (by decide +kernel)
def Y_X4_blame : MD := (yX4_blame, cX4_blame, 2, none, 0, 0, 0, 0)
theorem mc_X4_blame : MC Y_X4_blame 1 := ⟨gT_mem (i := 442) (by decide +kernel) (by decide +kernel), gT_mem (i := 63) (by decide +kernel) (by decide +kernel), by decide +kernel⟩
theorem mi_X4_blame : Cond.instanceMethod yX4_blame ∈ gT := gT_mem (i := 441) (by decide +kernel) (by decide +kernel)
theorem ms_X4_blame : Cond.selects RX4 yX4_blame yX4_blame ∈ gT := gT_mem (i := 4) (by decide +kernel) (by decide +kernel)
def Y_X5_init : MD := (yX5_init, cX5_init, 2, none, 1, 20, 0, 0)
theorem mc_X5_init : MC Y_X5_init 1 := ⟨gT_mem (i := 235) (by decide +kernel) (by decide +kernel), gT_mem (i := 69) (by decide +kernel) (by decide +kernel), by decide +kernel⟩
theorem mi_X5_init : Cond.instanceMethod yX5_init ∈ gT := gT_mem (i := 234) (by decide +kernel) (by decide +kernel)
def Y_X5_planAll : MD := (yX5_planAll, cX5_planAll, 6, none, 22, 1051, 0, 0)
theorem mc_X5_planAll : MC Y_X5_planAll 2 := ⟨gT_mem (i := 581) (by decide +kernel) (by decide +kernel), gT_mem (i := 69) (by decide +kernel) (by decide +kernel), by decide +kernel⟩
theorem mi_X5_planAll : Cond.instanceMethod yX5_planAll ∈ gT := gT_mem (i := 579) (by decide +kernel) (by decide +kernel)
theorem ms_X5_planAll : Cond.selects RX5 yX5_planAll yX5_planAll ∈ gT := gT_mem (i := 580) (by decide +kernel) (by decide +kernel)
def Y_X5_firstOf : MD := (yX5_firstOf, cX5_firstOf, 7, (some .int), 1, 22, 0, 0)
theorem mc_X5_firstOf : MC Y_X5_firstOf 2 := ⟨gT_mem (i := 585) (by decide +kernel) (by decide +kernel), gT_mem (i := 69) (by decide +kernel) (by decide +kernel), by decide +kernel⟩
theorem mi_X5_firstOf : Cond.instanceMethod yX5_firstOf ∈ gT := gT_mem (i := 584) (by decide +kernel) (by decide +kernel)
theorem ms_X5_firstOf : Cond.selects RX5 yX5_firstOf yX5_firstOf ∈ gT := gT_mem (i := 9) (by decide +kernel) (by decide +kernel)
def Y_X5_planOne : MD := (yX5_planOne, cX5_planOne, 7, (some .boolean), 21, 1025, 0, 0)
theorem mc_X5_planOne : MC Y_X5_planOne 2 := ⟨gT_mem (i := 590) (by decide +kernel) (by decide +kernel), gT_mem (i := 69) (by decide +kernel) (by decide +kernel), by decide +kernel⟩
theorem mi_X5_planOne : Cond.instanceMethod yX5_planOne ∈ gT := gT_mem (i := 589) (by decide +kernel) (by decide +kernel)
theorem ms_X5_planOne : Cond.selects RX5 yX5_planOne yX5_planOne ∈ gT := gT_mem (i := 10) (by decide +kernel) (by decide +kernel)
def Y_X5_pushOut : MD := (yX5_pushOut, cX5_pushOut, 7, (some .int), 3, 68, 0, 0)
theorem mc_X5_pushOut : MC Y_X5_pushOut 2 := ⟨gT_mem (i := 652) (by decide +kernel) (by decide +kernel), gT_mem (i := 69) (by decide +kernel) (by decide +kernel), by decide +kernel⟩
theorem mi_X5_pushOut : Cond.instanceMethod yX5_pushOut ∈ gT := gT_mem (i := 651) (by decide +kernel) (by decide +kernel)
theorem ms_X5_pushOut : Cond.selects RX5 yX5_pushOut yX5_pushOut ∈ gT := gT_mem (i := 17) (by decide +kernel) (by decide +kernel)
def Y_X6_init : MD := (yX6_init, cX6_init, 2, none, 2, 42, 6, 2409)
theorem mc_X6_init : MC Y_X6_init 1 := ⟨gT_mem (i := 180) (by decide +kernel) (by decide +kernel), gT_mem (i := 66) (by decide +kernel) (by decide +kernel), by decide +kernel⟩
theorem mi_X6_init : Cond.instanceMethod yX6_init ∈ gT := gT_mem (i := 179) (by decide +kernel) (by decide +kernel)
def Y_X6_lookAt : MD := (yX6_lookAt, cX6_lookAt, 7, none, 3, 68, 0, 0)
theorem mc_X6_lookAt : MC Y_X6_lookAt 2 := ⟨gT_mem (i := 607) (by decide +kernel) (by decide +kernel), gT_mem (i := 66) (by decide +kernel) (by decide +kernel), by decide +kernel⟩
theorem mi_X6_lookAt : Cond.instanceMethod yX6_lookAt ∈ gT := gT_mem (i := 605) (by decide +kernel) (by decide +kernel)
theorem ms_X6_lookAt : Cond.selects RX6 yX6_lookAt yX6_lookAt ∈ gT := gT_mem (i := 606) (by decide +kernel) (by decide +kernel)
def Y_X6_openWindows : MD := (yX6_openWindows, cX6_openWindows, 8, none, 2, 41, 0, 0)
theorem mc_X6_openWindows : MC Y_X6_openWindows 1 := ⟨gT_mem (i := 611) (by decide +kernel) (by decide +kernel), gT_mem (i := 66) (by decide +kernel) (by decide +kernel), by decide +kernel⟩
theorem mi_X6_openWindows : Cond.instanceMethod yX6_openWindows ∈ gT := gT_mem (i := 610) (by decide +kernel) (by decide +kernel)
theorem ms_X6_openWindows : Cond.selects RX6 yX6_openWindows yX6_openWindows ∈ gT := gT_mem (i := 12) (by decide +kernel) (by decide +kernel)
def Y_X6_closeTicks : MD := (yX6_closeTicks, cX6_closeTicks, 6, none, 1, 24, 0, 0)
theorem mc_X6_closeTicks : MC Y_X6_closeTicks 2 := ⟨gT_mem (i := 623) (by decide +kernel) (by decide +kernel), gT_mem (i := 66) (by decide +kernel) (by decide +kernel), by decide +kernel⟩
theorem mi_X6_closeTicks : Cond.instanceMethod yX6_closeTicks ∈ gT := gT_mem (i := 622) (by decide +kernel) (by decide +kernel)
theorem ms_X6_closeTicks : Cond.selects RX6 yX6_closeTicks yX6_closeTicks ∈ gT := gT_mem (i := 13) (by decide +kernel) (by decide +kernel)
def Y_X6_countRuns : MD := (yX6_countRuns, cX6_countRuns, 4, none, 1, 24, 0, 0)
theorem mc_X6_countRuns : MC Y_X6_countRuns 0 := ⟨gT_mem (i := 627) (by decide +kernel) (by decide +kernel), gT_mem (i := 66) (by decide +kernel) (by decide +kernel), by decide +kernel⟩
theorem mi_X6_countRuns : Cond.instanceMethod yX6_countRuns ∈ gT := gT_mem (i := 626) (by decide +kernel) (by decide +kernel)
theorem ms_X6_countRuns : Cond.selects RX6 yX6_countRuns yX6_countRuns ∈ gT := gT_mem (i := 14) (by decide +kernel) (by decide +kernel)
def Y_X6_seek : MD := (yX6_seek, cX6_seek, 6, (some .int), 20, 1000, 0, 0)
theorem mc_X6_seek : MC Y_X6_seek 5 := ⟨gT_mem (i := 631) (by decide +kernel) (by decide +kernel), gT_mem (i := 66) (by decide +kernel) (by decide +kernel), by decide +kernel⟩
theorem mi_X6_seek : Cond.instanceMethod yX6_seek ∈ gT := gT_mem (i := 629) (by decide +kernel) (by decide +kernel)
theorem ms_X6_seek : Cond.selects RX6 yX6_seek yX6_seek ∈ gT := gT_mem (i := 630) (by decide +kernel) (by decide +kernel)
def Y_X6_explore (d : Nat) : MD := (yX6_explore, cX6_explore, 10, none, 4 + d, 200 + 60 * d, 0, 0)
theorem mc_X6_explore0 : MC (Y_X6_explore 0) 5 := ⟨gT_mem (i := 634) (by decide +kernel) (by decide +kernel), gT_mem (i := 66) (by decide +kernel) (by decide +kernel), by decide +kernel⟩
theorem mc_X6_explore (d : Nat) : MC (Y_X6_explore d) 5 := mc_X6_explore0
theorem mt_X6_explore : Cond.static yX6_explore ∈ gT := gT_mem (i := 633) (by decide +kernel) (by decide +kernel)
def Y_X6_firstBegin : MD := (yX6_firstBegin, cX6_firstBegin, 5, (some .int), 1, 23, 0, 0)
theorem mc_X6_firstBegin : MC Y_X6_firstBegin 3 := ⟨gT_mem (i := 642) (by decide +kernel) (by decide +kernel), gT_mem (i := 66) (by decide +kernel) (by decide +kernel), by decide +kernel⟩
theorem mi_X6_firstBegin : Cond.instanceMethod yX6_firstBegin ∈ gT := gT_mem (i := 641) (by decide +kernel) (by decide +kernel)
theorem ms_X6_firstBegin : Cond.selects RX6 yX6_firstBegin yX6_firstBegin ∈ gT := gT_mem (i := 15) (by decide +kernel) (by decide +kernel)
def Y_X6_setTrail : MD := (yX6_setTrail, cX6_setTrail, 7, none, 2, 41, 0, 0)
theorem mc_X6_setTrail : MC Y_X6_setTrail 5 := ⟨gT_mem (i := 646) (by decide +kernel) (by decide +kernel), gT_mem (i := 66) (by decide +kernel) (by decide +kernel), by decide +kernel⟩
theorem mi_X6_setTrail : Cond.instanceMethod yX6_setTrail ∈ gT := gT_mem (i := 645) (by decide +kernel) (by decide +kernel)
theorem ms_X6_setTrail : Cond.selects RX6 yX6_setTrail yX6_setTrail ∈ gT := gT_mem (i := 16) (by decide +kernel) (by decide +kernel)
def Y_X7_init : MD := (yX7_init, cX7_init, 3, none, 3, 63, 28, 7316)
theorem mc_X7_init : MC Y_X7_init 1 := ⟨gT_mem (i := 245) (by decide +kernel) (by decide +kernel), gT_mem (i := 70) (by decide +kernel) (by decide +kernel), by decide +kernel⟩
theorem mi_X7_init : Cond.instanceMethod yX7_init ∈ gT := gT_mem (i := 244) (by decide +kernel) (by decide +kernel)
def Y_X7_reset : MD := (yX7_reset, cX7_reset, 1, none, 0, 0, 0, 0)
theorem mc_X7_reset : MC Y_X7_reset 0 := ⟨gT_mem (i := 473) (by decide +kernel) (by decide +kernel), gT_mem (i := 70) (by decide +kernel) (by decide +kernel), by decide +kernel⟩
theorem mi_X7_reset : Cond.instanceMethod yX7_reset ∈ gT := gT_mem (i := 471) (by decide +kernel) (by decide +kernel)
theorem ms_X7_reset : Cond.selects RX7 yX7_reset yX7_reset ∈ gT := gT_mem (i := 472) (by decide +kernel) (by decide +kernel)
def Y_X7_copyFrom : MD := (yX7_copyFrom, cX7_copyFrom, 3, none, 4, 90, 0, 0)
theorem mc_X7_copyFrom : MC Y_X7_copyFrom 1 := ⟨gT_mem (i := 523) (by decide +kernel) (by decide +kernel), gT_mem (i := 70) (by decide +kernel) (by decide +kernel), by decide +kernel⟩
theorem mi_X7_copyFrom : Cond.instanceMethod yX7_copyFrom ∈ gT := gT_mem (i := 521) (by decide +kernel) (by decide +kernel)
theorem ms_X7_copyFrom : Cond.selects RX7 yX7_copyFrom yX7_copyFrom ∈ gT := gT_mem (i := 522) (by decide +kernel) (by decide +kernel)
def Y_X7_hasBundle : MD := (yX7_hasBundle, cX7_hasBundle, 2, (some .boolean), 0, 0, 0, 0)
theorem mc_X7_hasBundle : MC Y_X7_hasBundle 1 := ⟨gT_mem (i := 669) (by decide +kernel) (by decide +kernel), gT_mem (i := 70) (by decide +kernel) (by decide +kernel), by decide +kernel⟩
theorem mi_X7_hasBundle : Cond.instanceMethod yX7_hasBundle ∈ gT := gT_mem (i := 667) (by decide +kernel) (by decide +kernel)
theorem ms_X7_hasBundle : Cond.selects RX7 yX7_hasBundle yX7_hasBundle ∈ gT := gT_mem (i := 668) (by decide +kernel) (by decide +kernel)
def Y_X7_bundleAt : MD := (yX7_bundleAt, cX7_bundleAt, 3, (some (.object "ContactWays$Bundle")), 0, 0, 0, 0)
theorem mc_X7_bundleAt : MC Y_X7_bundleAt 1 := ⟨gT_mem (i := 527) (by decide +kernel) (by decide +kernel), gT_mem (i := 70) (by decide +kernel) (by decide +kernel), by decide +kernel⟩
theorem mi_X7_bundleAt : Cond.instanceMethod yX7_bundleAt ∈ gT := gT_mem (i := 525) (by decide +kernel) (by decide +kernel)
theorem ms_X7_bundleAt : Cond.selects RX7 yX7_bundleAt yX7_bundleAt ∈ gT := gT_mem (i := 526) (by decide +kernel) (by decide +kernel)
def Y_X7_addBundle : MD := (yX7_addBundle, cX7_addBundle, 1, (some .int), 0, 0, 0, 0)
theorem mc_X7_addBundle : MC Y_X7_addBundle 0 := ⟨gT_mem (i := 561) (by decide +kernel) (by decide +kernel), gT_mem (i := 70) (by decide +kernel) (by decide +kernel), by decide +kernel⟩
theorem mi_X7_addBundle : Cond.instanceMethod yX7_addBundle ∈ gT := gT_mem (i := 559) (by decide +kernel) (by decide +kernel)
theorem ms_X7_addBundle : Cond.selects RX7 yX7_addBundle yX7_addBundle ∈ gT := gT_mem (i := 560) (by decide +kernel) (by decide +kernel)
def Y_X7_isMissed : MD := (yX7_isMissed, cX7_isMissed, 2, (some .boolean), 0, 0, 0, 0)
theorem mc_X7_isMissed : MC Y_X7_isMissed 1 := ⟨gT_mem (i := 494) (by decide +kernel) (by decide +kernel), gT_mem (i := 70) (by decide +kernel) (by decide +kernel), by decide +kernel⟩
theorem mi_X7_isMissed : Cond.instanceMethod yX7_isMissed ∈ gT := gT_mem (i := 492) (by decide +kernel) (by decide +kernel)
theorem ms_X7_isMissed : Cond.selects RX7 yX7_isMissed yX7_isMissed ∈ gT := gT_mem (i := 493) (by decide +kernel) (by decide +kernel)
def Y_X7_isOpen : MD := (yX7_isOpen, cX7_isOpen, 3, (some .boolean), 3, 64, 0, 0)
theorem mc_X7_isOpen : MC Y_X7_isOpen 1 := ⟨gT_mem (i := 567) (by decide +kernel) (by decide +kernel), gT_mem (i := 70) (by decide +kernel) (by decide +kernel), by decide +kernel⟩
theorem mi_X7_isOpen : Cond.instanceMethod yX7_isOpen ∈ gT := gT_mem (i := 565) (by decide +kernel) (by decide +kernel)
theorem ms_X7_isOpen : Cond.selects RX7 yX7_isOpen yX7_isOpen ∈ gT := gT_mem (i := 566) (by decide +kernel) (by decide +kernel)
def Y_X7_countStanding : MD := (yX7_countStanding, cX7_countStanding, 2, (some .int), 4, 87, 0, 0)
theorem mc_X7_countStanding : MC Y_X7_countStanding 1 := ⟨gT_mem (i := 708) (by decide +kernel) (by decide +kernel), gT_mem (i := 70) (by decide +kernel) (by decide +kernel), by decide +kernel⟩
theorem mi_X7_countStanding : Cond.instanceMethod yX7_countStanding ∈ gT := gT_mem (i := 706) (by decide +kernel) (by decide +kernel)
theorem ms_X7_countStanding : Cond.selects RX7 yX7_countStanding yX7_countStanding ∈ gT := gT_mem (i := 707) (by decide +kernel) (by decide +kernel)
def Y_X7_allStanding : MD := (yX7_allStanding, cX7_allStanding, 4, (some .int), 3, 64, 0, 0)
theorem mc_X7_allStanding : MC Y_X7_allStanding 1 := ⟨gT_mem (i := 712) (by decide +kernel) (by decide +kernel), gT_mem (i := 70) (by decide +kernel) (by decide +kernel), by decide +kernel⟩
theorem mi_X7_allStanding : Cond.instanceMethod yX7_allStanding ∈ gT := gT_mem (i := 710) (by decide +kernel) (by decide +kernel)
theorem ms_X7_allStanding : Cond.selects RX7 yX7_allStanding yX7_allStanding ∈ gT := gT_mem (i := 711) (by decide +kernel) (by decide +kernel)
def Y_X7_tickAtGoal : MD := (yX7_tickAtGoal, cX7_tickAtGoal, 3, (some .int), 3, 64, 0, 0)
theorem mc_X7_tickAtGoal : MC Y_X7_tickAtGoal 1 := ⟨gT_mem (i := 660) (by decide +kernel) (by decide +kernel), gT_mem (i := 70) (by decide +kernel) (by decide +kernel), by decide +kernel⟩
theorem mi_X7_tickAtGoal : Cond.instanceMethod yX7_tickAtGoal ∈ gT := gT_mem (i := 658) (by decide +kernel) (by decide +kernel)
theorem ms_X7_tickAtGoal : Cond.selects RX7 yX7_tickAtGoal yX7_tickAtGoal ∈ gT := gT_mem (i := 659) (by decide +kernel) (by decide +kernel)
def Y_X7_takerOf : MD := (yX7_takerOf, cX7_takerOf, 4, (some .int), 2, 46, 0, 0)
theorem mc_X7_takerOf : MC Y_X7_takerOf 2 := ⟨gT_mem (i := 757) (by decide +kernel) (by decide +kernel), gT_mem (i := 70) (by decide +kernel) (by decide +kernel), by decide +kernel⟩
theorem mi_X7_takerOf : Cond.instanceMethod yX7_takerOf ∈ gT := gT_mem (i := 755) (by decide +kernel) (by decide +kernel)
theorem ms_X7_takerOf : Cond.selects RX7 yX7_takerOf yX7_takerOf ∈ gT := gT_mem (i := 756) (by decide +kernel) (by decide +kernel)
def Y_X7_advance : MD := (yX7_advance, cX7_advance, 3, none, 4, 85, 0, 0)
theorem mc_X7_advance : MC Y_X7_advance 1 := ⟨gT_mem (i := 682) (by decide +kernel) (by decide +kernel), gT_mem (i := 70) (by decide +kernel) (by decide +kernel), by decide +kernel⟩
theorem mi_X7_advance : Cond.instanceMethod yX7_advance ∈ gT := gT_mem (i := 680) (by decide +kernel) (by decide +kernel)
theorem ms_X7_advance : Cond.selects RX7 yX7_advance yX7_advance ∈ gT := gT_mem (i := 681) (by decide +kernel) (by decide +kernel)
def Y_X7_lose : MD := (yX7_lose, cX7_lose, 4, (some .int), 4, 86, 0, 0)
theorem mc_X7_lose : MC Y_X7_lose 1 := ⟨gT_mem (i := 699) (by decide +kernel) (by decide +kernel), gT_mem (i := 70) (by decide +kernel) (by decide +kernel), by decide +kernel⟩
theorem mi_X7_lose : Cond.instanceMethod yX7_lose ∈ gT := gT_mem (i := 697) (by decide +kernel) (by decide +kernel)
theorem ms_X7_lose : Cond.selects RX7 yX7_lose yX7_lose ∈ gT := gT_mem (i := 698) (by decide +kernel) (by decide +kernel)
def Y_X7_regain : MD := (yX7_regain, cX7_regain, 2, (some .int), 4, 87, 0, 0)
theorem mc_X7_regain : MC Y_X7_regain 1 := ⟨gT_mem (i := 726) (by decide +kernel) (by decide +kernel), gT_mem (i := 70) (by decide +kernel) (by decide +kernel), by decide +kernel⟩
theorem mi_X7_regain : Cond.instanceMethod yX7_regain ∈ gT := gT_mem (i := 724) (by decide +kernel) (by decide +kernel)
theorem ms_X7_regain : Cond.selects RX7 yX7_regain yX7_regain ∈ gT := gT_mem (i := 725) (by decide +kernel) (by decide +kernel)
def Y_X8_init : MD := (yX8_init, cX8_init, 3, none, 1, 20, 1, 800)
theorem mc_X8_init : MC Y_X8_init 2 := ⟨gT_mem (i := 186) (by decide +kernel) (by decide +kernel), gT_mem (i := 67) (by decide +kernel) (by decide +kernel), by decide +kernel⟩
theorem mi_X8_init : Cond.instanceMethod yX8_init ∈ gT := gT_mem (i := 185) (by decide +kernel) (by decide +kernel)
def Y_X8_at : MD := (yX8_at, cX8_at, 4, (some .int), 0, 0, 0, 0)
theorem mc_X8_at : MC Y_X8_at 2 := ⟨gT_mem (i := 552) (by decide +kernel) (by decide +kernel), gT_mem (i := 67) (by decide +kernel) (by decide +kernel), by decide +kernel⟩
theorem mi_X8_at : Cond.instanceMethod yX8_at ∈ gT := gT_mem (i := 550) (by decide +kernel) (by decide +kernel)
theorem ms_X8_at : Cond.selects RX8 yX8_at yX8_at ∈ gT := gT_mem (i := 551) (by decide +kernel) (by decide +kernel)
def Y_X8_put : MD := (yX8_put, cX8_put, 5, none, 0, 0, 0, 0)
theorem mc_X8_put : MC Y_X8_put 3 := ⟨gT_mem (i := 556) (by decide +kernel) (by decide +kernel), gT_mem (i := 67) (by decide +kernel) (by decide +kernel), by decide +kernel⟩
theorem mi_X8_put : Cond.instanceMethod yX8_put ∈ gT := gT_mem (i := 554) (by decide +kernel) (by decide +kernel)
theorem ms_X8_put : Cond.selects RX8 yX8_put yX8_put ∈ gT := gT_mem (i := 555) (by decide +kernel) (by decide +kernel)
def Y_X8_addRow : MD := (yX8_addRow, cX8_addRow, 1, (some .int), 0, 0, 0, 0)
theorem mc_X8_addRow : MC Y_X8_addRow 0 := ⟨gT_mem (i := 548) (by decide +kernel) (by decide +kernel), gT_mem (i := 67) (by decide +kernel) (by decide +kernel), by decide +kernel⟩
theorem mi_X8_addRow : Cond.instanceMethod yX8_addRow ∈ gT := gT_mem (i := 546) (by decide +kernel) (by decide +kernel)
theorem ms_X8_addRow : Cond.selects RX8 yX8_addRow yX8_addRow ∈ gT := gT_mem (i := 547) (by decide +kernel) (by decide +kernel)
def Y_X8_cut : MD := (yX8_cut, cX8_cut, 2, none, 1, 20, 0, 0)
theorem mc_X8_cut : MC Y_X8_cut 1 := ⟨gT_mem (i := 481) (by decide +kernel) (by decide +kernel), gT_mem (i := 67) (by decide +kernel) (by decide +kernel), by decide +kernel⟩
theorem mi_X8_cut : Cond.instanceMethod yX8_cut ∈ gT := gT_mem (i := 479) (by decide +kernel) (by decide +kernel)
theorem ms_X8_cut : Cond.selects RX8 yX8_cut yX8_cut ∈ gT := gT_mem (i := 480) (by decide +kernel) (by decide +kernel)
def Y_X8_removeFirstRow : MD := (yX8_removeFirstRow, cX8_removeFirstRow, 3, none, 2, 41, 0, 0)
theorem mc_X8_removeFirstRow : MC Y_X8_removeFirstRow 0 := ⟨gT_mem (i := 690) (by decide +kernel) (by decide +kernel), gT_mem (i := 67) (by decide +kernel) (by decide +kernel), by decide +kernel⟩
theorem mi_X8_removeFirstRow : Cond.instanceMethod yX8_removeFirstRow ∈ gT := gT_mem (i := 688) (by decide +kernel) (by decide +kernel)
theorem ms_X8_removeFirstRow : Cond.selects RX8 yX8_removeFirstRow yX8_removeFirstRow ∈ gT := gT_mem (i := 689) (by decide +kernel) (by decide +kernel)
def Y_X8_copyFrom : MD := (yX8_copyFrom, cX8_copyFrom, 2, none, 2, 48, 0, 0)
theorem mc_X8_copyFrom : MC Y_X8_copyFrom 1 := ⟨gT_mem (i := 540) (by decide +kernel) (by decide +kernel), gT_mem (i := 67) (by decide +kernel) (by decide +kernel), by decide +kernel⟩
theorem mi_X8_copyFrom : Cond.instanceMethod yX8_copyFrom ∈ gT := gT_mem (i := 538) (by decide +kernel) (by decide +kernel)
theorem ms_X8_copyFrom : Cond.selects RX8 yX8_copyFrom yX8_copyFrom ∈ gT := gT_mem (i := 539) (by decide +kernel) (by decide +kernel)
def Y_X8_appendFrom : MD := (yX8_appendFrom, cX8_appendFrom, 5, none, 1, 24, 0, 0)
theorem mc_X8_appendFrom : MC Y_X8_appendFrom 1 := ⟨gT_mem (i := 544) (by decide +kernel) (by decide +kernel), gT_mem (i := 67) (by decide +kernel) (by decide +kernel), by decide +kernel⟩
theorem mi_X8_appendFrom : Cond.instanceMethod yX8_appendFrom ∈ gT := gT_mem (i := 542) (by decide +kernel) (by decide +kernel)
theorem ms_X8_appendFrom : Cond.selects RX8 yX8_appendFrom yX8_appendFrom ∈ gT := gT_mem (i := 543) (by decide +kernel) (by decide +kernel)
def Y_X9_init : MD := (yX9_init, cX9_init, 1, none, 1, 20, 1, 150)
theorem mc_X9_init : MC Y_X9_init 0 := ⟨gT_mem (i := 87) (by decide +kernel) (by decide +kernel), gT_mem (i := 62) (by decide +kernel) (by decide +kernel), by decide +kernel⟩
theorem mi_X9_init : Cond.instanceMethod yX9_init ∈ gT := gT_mem (i := 86) (by decide +kernel) (by decide +kernel)
def Y_X9_isFull : MD := (yX9_isFull, cX9_isFull, 1, (some .boolean), 0, 0, 0, 0)
theorem mc_X9_isFull : MC Y_X9_isFull 0 := ⟨gT_mem (i := 387) (by decide +kernel) (by decide +kernel), gT_mem (i := 62) (by decide +kernel) (by decide +kernel), by decide +kernel⟩
theorem mi_X9_isFull : Cond.instanceMethod yX9_isFull ∈ gT := gT_mem (i := 385) (by decide +kernel) (by decide +kernel)
theorem ms_X9_isFull : Cond.selects RX9 yX9_isFull yX9_isFull ∈ gT := gT_mem (i := 386) (by decide +kernel) (by decide +kernel)
def Y_X9_append : MD := (yX9_append, cX9_append, 2, none, 0, 0, 0, 0)
theorem mc_X9_append : MC Y_X9_append 1 := ⟨gT_mem (i := 391) (by decide +kernel) (by decide +kernel), gT_mem (i := 62) (by decide +kernel) (by decide +kernel), by decide +kernel⟩
theorem mi_X9_append : Cond.instanceMethod yX9_append ∈ gT := gT_mem (i := 389) (by decide +kernel) (by decide +kernel)
theorem ms_X9_append : Cond.selects RX9 yX9_append yX9_append ∈ gT := gT_mem (i := 390) (by decide +kernel) (by decide +kernel)
def Y_X9_empty : MD := (yX9_empty, cX9_empty, 1, none, 0, 0, 0, 0)
theorem mc_X9_empty : MC Y_X9_empty 0 := ⟨gT_mem (i := 399) (by decide +kernel) (by decide +kernel), gT_mem (i := 62) (by decide +kernel) (by decide +kernel), by decide +kernel⟩
theorem mi_X9_empty : Cond.instanceMethod yX9_empty ∈ gT := gT_mem (i := 397) (by decide +kernel) (by decide +kernel)
theorem ms_X9_empty : Cond.selects RX9 yX9_empty yX9_empty ∈ gT := gT_mem (i := 398) (by decide +kernel) (by decide +kernel)
def Y_X9_byteAt : MD := (yX9_byteAt, cX9_byteAt, 2, (some .int), 0, 0, 0, 0)
theorem mc_X9_byteAt : MC Y_X9_byteAt 1 := ⟨gT_mem (i := 419) (by decide +kernel) (by decide +kernel), gT_mem (i := 62) (by decide +kernel) (by decide +kernel), by decide +kernel⟩
theorem mi_X9_byteAt : Cond.instanceMethod yX9_byteAt ∈ gT := gT_mem (i := 417) (by decide +kernel) (by decide +kernel)
theorem ms_X9_byteAt : Cond.selects RX9 yX9_byteAt yX9_byteAt ∈ gT := gT_mem (i := 418) (by decide +kernel) (by decide +kernel)
def Y_X10_init : MD := (yX10_init, cX10_init, 1, none, 5, 107, 398, 98598)
theorem mc_X10_init : MC Y_X10_init 0 := ⟨gT_mem (i := 79) (by decide +kernel) (by decide +kernel), gT_mem (i := 61) (by decide +kernel) (by decide +kernel), by decide +kernel⟩
theorem mi_X10_init : Cond.instanceMethod yX10_init ∈ gT := gT_mem (i := 78) (by decide +kernel) (by decide +kernel)
def Y_X10_type : MD := (yX10_type, cX10_type, 2, (some .int), 1, 22, 0, 0)
theorem mc_X10_type : MC Y_X10_type 1 := ⟨gT_mem (i := 380) (by decide +kernel) (by decide +kernel), gT_mem (i := 61) (by decide +kernel) (by decide +kernel), by decide +kernel⟩
theorem mi_X10_type : Cond.instanceMethod yX10_type ∈ gT := gT_mem (i := 378) (by decide +kernel) (by decide +kernel)
theorem ms_X10_type : Cond.selects RX10 yX10_type yX10_type ∈ gT := gT_mem (i := 379) (by decide +kernel) (by decide +kernel)
def Y_X10_clear : MD := (yX10_clear, cX10_clear, 2, (some .int), 1, 20, 0, 0)
theorem mc_X10_clear : MC Y_X10_clear 0 := ⟨gT_mem (i := 395) (by decide +kernel) (by decide +kernel), gT_mem (i := 61) (by decide +kernel) (by decide +kernel), by decide +kernel⟩
theorem mi_X10_clear : Cond.instanceMethod yX10_clear ∈ gT := gT_mem (i := 393) (by decide +kernel) (by decide +kernel)
theorem ms_X10_clear : Cond.selects RX10 yX10_clear yX10_clear ∈ gT := gT_mem (i := 394) (by decide +kernel) (by decide +kernel)
def Y_X10_plan : MD := (yX10_plan, cX10_plan, 2, (some .int), 6, 136, 150, 900)
theorem mc_X10_plan : MC Y_X10_plan 0 := ⟨gT_mem (i := 403) (by decide +kernel) (by decide +kernel), gT_mem (i := 61) (by decide +kernel) (by decide +kernel), by decide +kernel⟩
theorem mi_X10_plan : Cond.instanceMethod yX10_plan ∈ gT := gT_mem (i := 401) (by decide +kernel) (by decide +kernel)
theorem ms_X10_plan : Cond.selects RX10 yX10_plan yX10_plan ∈ gT := gT_mem (i := 402) (by decide +kernel) (by decide +kernel)
def Y_X10_contact : MD := (yX10_contact, cX10_contact, 3, (some .int), 1, 22, 0, 0)
theorem mc_X10_contact : MC Y_X10_contact 2 := ⟨gT_mem (i := 486) (by decide +kernel) (by decide +kernel), gT_mem (i := 61) (by decide +kernel) (by decide +kernel), by decide +kernel⟩
theorem mi_X10_contact : Cond.instanceMethod yX10_contact ∈ gT := gT_mem (i := 484) (by decide +kernel) (by decide +kernel)
theorem ms_X10_contact : Cond.selects RX10 yX10_contact yX10_contact ∈ gT := gT_mem (i := 485) (by decide +kernel) (by decide +kernel)
def Y_X10_sends : MD := (yX10_sends, cX10_sends, 7, (some .int), 23, 1076, 0, 0)
theorem mc_X10_sends : MC Y_X10_sends 5 := ⟨gT_mem (i := 503) (by decide +kernel) (by decide +kernel), gT_mem (i := 61) (by decide +kernel) (by decide +kernel), by decide +kernel⟩
theorem mi_X10_sends : Cond.instanceMethod yX10_sends ∈ gT := gT_mem (i := 501) (by decide +kernel) (by decide +kernel)
theorem ms_X10_sends : Cond.selects RX10 yX10_sends yX10_sends ∈ gT := gT_mem (i := 502) (by decide +kernel) (by decide +kernel)
def Y_X10_drops : MD := (yX10_drops, cX10_drops, 2, (some .int), 6, 133, 0, 0)
theorem mc_X10_drops : MC Y_X10_drops 1 := ⟨gT_mem (i := 665) (by decide +kernel) (by decide +kernel), gT_mem (i := 61) (by decide +kernel) (by decide +kernel), by decide +kernel⟩
theorem mi_X10_drops : Cond.instanceMethod yX10_drops ∈ gT := gT_mem (i := 663) (by decide +kernel) (by decide +kernel)
theorem ms_X10_drops : Cond.selects RX10 yX10_drops yX10_drops ∈ gT := gT_mem (i := 664) (by decide +kernel) (by decide +kernel)
def Y_X10_passes : MD := (yX10_passes, cX10_passes, 2, (some .int), 6, 133, 0, 0)
theorem mc_X10_passes : MC Y_X10_passes 1 := ⟨gT_mem (i := 678) (by decide +kernel) (by decide +kernel), gT_mem (i := 61) (by decide +kernel) (by decide +kernel), by decide +kernel⟩
theorem mi_X10_passes : Cond.instanceMethod yX10_passes ∈ gT := gT_mem (i := 676) (by decide +kernel) (by decide +kernel)
theorem ms_X10_passes : Cond.selects RX10 yX10_passes yX10_passes ∈ gT := gT_mem (i := 677) (by decide +kernel) (by decide +kernel)
def Y_X10_misses : MD := (yX10_misses, cX10_misses, 2, (some .int), 23, 1076, 0, 0)
theorem mc_X10_misses : MC Y_X10_misses 1 := ⟨gT_mem (i := 695) (by decide +kernel) (by decide +kernel), gT_mem (i := 61) (by decide +kernel) (by decide +kernel), by decide +kernel⟩
theorem mi_X10_misses : Cond.instanceMethod yX10_misses ∈ gT := gT_mem (i := 693) (by decide +kernel) (by decide +kernel)
theorem ms_X10_misses : Cond.selects RX10 yX10_misses yX10_misses ∈ gT := gT_mem (i := 694) (by decide +kernel) (by decide +kernel)
def Y_X10_finds : MD := (yX10_finds, cX10_finds, 2, (some .int), 23, 1076, 0, 0)
theorem mc_X10_finds : MC Y_X10_finds 1 := ⟨gT_mem (i := 722) (by decide +kernel) (by decide +kernel), gT_mem (i := 61) (by decide +kernel) (by decide +kernel), by decide +kernel⟩
theorem mi_X10_finds : Cond.instanceMethod yX10_finds ∈ gT := gT_mem (i := 720) (by decide +kernel) (by decide +kernel)
theorem ms_X10_finds : Cond.selects RX10 yX10_finds yX10_finds ∈ gT := gT_mem (i := 721) (by decide +kernel) (by decide +kernel)
def Y_X10_undo : MD := (yX10_undo, cX10_undo, 1, (some .int), 6, 133, 0, 0)
theorem mc_X10_undo : MC Y_X10_undo 0 := ⟨gT_mem (i := 730) (by decide +kernel) (by decide +kernel), gT_mem (i := 61) (by decide +kernel) (by decide +kernel), by decide +kernel⟩
theorem mi_X10_undo : Cond.instanceMethod yX10_undo ∈ gT := gT_mem (i := 728) (by decide +kernel) (by decide +kernel)
theorem ms_X10_undo : Cond.selects RX10 yX10_undo yX10_undo ∈ gT := gT_mem (i := 729) (by decide +kernel) (by decide +kernel)
def Y_X10_bundle : MD := (yX10_bundle, cX10_bundle, 3, (some .int), 4, 86, 0, 0)
theorem mc_X10_bundle : MC Y_X10_bundle 2 := ⟨gT_mem (i := 738) (by decide +kernel) (by decide +kernel), gT_mem (i := 61) (by decide +kernel) (by decide +kernel), by decide +kernel⟩
theorem mi_X10_bundle : Cond.instanceMethod yX10_bundle ∈ gT := gT_mem (i := 736) (by decide +kernel) (by decide +kernel)
theorem ms_X10_bundle : Cond.selects RX10 yX10_bundle yX10_bundle ∈ gT := gT_mem (i := 737) (by decide +kernel) (by decide +kernel)
def Y_X10_hop : MD := (yX10_hop, cX10_hop, 4, (some .int), 1, 23, 0, 0)
theorem mc_X10_hop : MC Y_X10_hop 3 := ⟨gT_mem (i := 748) (by decide +kernel) (by decide +kernel), gT_mem (i := 61) (by decide +kernel) (by decide +kernel), by decide +kernel⟩
theorem mi_X10_hop : Cond.instanceMethod yX10_hop ∈ gT := gT_mem (i := 746) (by decide +kernel) (by decide +kernel)
theorem ms_X10_hop : Cond.selects RX10 yX10_hop yX10_hop ∈ gT := gT_mem (i := 747) (by decide +kernel) (by decide +kernel)
def Y_X10_tick : MD := (yX10_tick, cX10_tick, 3, (some .int), 3, 69, 0, 0)
theorem mc_X10_tick : MC Y_X10_tick 2 := ⟨gT_mem (i := 753) (by decide +kernel) (by decide +kernel), gT_mem (i := 61) (by decide +kernel) (by decide +kernel), by decide +kernel⟩
theorem mi_X10_tick : Cond.instanceMethod yX10_tick ∈ gT := gT_mem (i := 751) (by decide +kernel) (by decide +kernel)
theorem ms_X10_tick : Cond.selects RX10 yX10_tick yX10_tick ∈ gT := gT_mem (i := 752) (by decide +kernel) (by decide +kernel)
def Y_X10_asks : MD := (yX10_asks, cX10_asks, 5, (some .int), 22, 1049, 0, 0)
theorem mc_X10_asks : MC Y_X10_asks 4 := ⟨gT_mem (i := 765) (by decide +kernel) (by decide +kernel), gT_mem (i := 61) (by decide +kernel) (by decide +kernel), by decide +kernel⟩
theorem mi_X10_asks : Cond.instanceMethod yX10_asks ∈ gT := gT_mem (i := 763) (by decide +kernel) (by decide +kernel)
theorem ms_X10_asks : Cond.selects RX10 yX10_asks yX10_asks ∈ gT := gT_mem (i := 764) (by decide +kernel) (by decide +kernel)
def Y_X10_largest : MD := (yX10_largest, cX10_largest, 7, (some .int), 22, 1049, 0, 0)
theorem mc_X10_largest : MC Y_X10_largest 4 := ⟨gT_mem (i := 775) (by decide +kernel) (by decide +kernel), gT_mem (i := 61) (by decide +kernel) (by decide +kernel), by decide +kernel⟩
theorem mi_X10_largest : Cond.instanceMethod yX10_largest ∈ gT := gT_mem (i := 773) (by decide +kernel) (by decide +kernel)
theorem ms_X10_largest : Cond.selects RX10 yX10_largest yX10_largest ∈ gT := gT_mem (i := 774) (by decide +kernel) (by decide +kernel)
def Y_X10_worst : MD := (yX10_worst, cX10_worst, 5, (some .int), 23, 1076, 0, 0)
theorem mc_X10_worst : MC Y_X10_worst 0 := ⟨gT_mem (i := 779) (by decide +kernel) (by decide +kernel), gT_mem (i := 61) (by decide +kernel) (by decide +kernel), by decide +kernel⟩
theorem mi_X10_worst : Cond.instanceMethod yX10_worst ∈ gT := gT_mem (i := 777) (by decide +kernel) (by decide +kernel)
theorem ms_X10_worst : Cond.selects RX10 yX10_worst yX10_worst ∈ gT := gT_mem (i := 778) (by decide +kernel) (by decide +kernel)
def Y_X10_sees : MD := (yX10_sees, cX10_sees, 5, (some .int), 1, 24, 0, 0)
theorem mc_X10_sees : MC Y_X10_sees 3 := ⟨gT_mem (i := 784) (by decide +kernel) (by decide +kernel), gT_mem (i := 61) (by decide +kernel) (by decide +kernel), by decide +kernel⟩
theorem mi_X10_sees : Cond.instanceMethod yX10_sees ∈ gT := gT_mem (i := 782) (by decide +kernel) (by decide +kernel)
theorem ms_X10_sees : Cond.selects RX10 yX10_sees yX10_sees ∈ gT := gT_mem (i := 783) (by decide +kernel) (by decide +kernel)
def Y_X10_forget : MD := (yX10_forget, cX10_forget, 2, (some .int), 2, 41, 0, 0)
theorem mc_X10_forget : MC Y_X10_forget 0 := ⟨gT_mem (i := 790) (by decide +kernel) (by decide +kernel), gT_mem (i := 61) (by decide +kernel) (by decide +kernel), by decide +kernel⟩
theorem mi_X10_forget : Cond.instanceMethod yX10_forget ∈ gT := gT_mem (i := 788) (by decide +kernel) (by decide +kernel)
theorem ms_X10_forget : Cond.selects RX10 yX10_forget yX10_forget ∈ gT := gT_mem (i := 789) (by decide +kernel) (by decide +kernel)
def Y_X10_unseen : MD := (yX10_unseen, cX10_unseen, 3, (some .int), 23, 1074, 0, 0)
theorem mc_X10_unseen : MC Y_X10_unseen 0 := ⟨gT_mem (i := 794) (by decide +kernel) (by decide +kernel), gT_mem (i := 61) (by decide +kernel) (by decide +kernel), by decide +kernel⟩
theorem mi_X10_unseen : Cond.instanceMethod yX10_unseen ∈ gT := gT_mem (i := 792) (by decide +kernel) (by decide +kernel)
theorem ms_X10_unseen : Cond.selects RX10 yX10_unseen yX10_unseen ∈ gT := gT_mem (i := 793) (by decide +kernel) (by decide +kernel)
def Y_X10_keep : MD := (yX10_keep, cX10_keep, 2, (some .int), 5, 112, 0, 0)
theorem mc_X10_keep : MC Y_X10_keep 1 := ⟨gT_mem (i := 802) (by decide +kernel) (by decide +kernel), gT_mem (i := 61) (by decide +kernel) (by decide +kernel), by decide +kernel⟩
theorem mi_X10_keep : Cond.instanceMethod yX10_keep ∈ gT := gT_mem (i := 800) (by decide +kernel) (by decide +kernel)
theorem ms_X10_keep : Cond.selects RX10 yX10_keep yX10_keep ∈ gT := gT_mem (i := 801) (by decide +kernel) (by decide +kernel)
def Y_X10_back : MD := (yX10_back, cX10_back, 2, (some .int), 5, 112, 0, 0)
theorem mc_X10_back : MC Y_X10_back 1 := ⟨gT_mem (i := 810) (by decide +kernel) (by decide +kernel), gT_mem (i := 61) (by decide +kernel) (by decide +kernel), by decide +kernel⟩
theorem mi_X10_back : Cond.instanceMethod yX10_back ∈ gT := gT_mem (i := 808) (by decide +kernel) (by decide +kernel)
theorem ms_X10_back : Cond.selects RX10 yX10_back yX10_back ∈ gT := gT_mem (i := 809) (by decide +kernel) (by decide +kernel)
def Y_X10_count : MD := (yX10_count, cX10_count, 2, (some .int), 5, 108, 0, 0)
theorem mc_X10_count : MC Y_X10_count 1 := ⟨gT_mem (i := 814) (by decide +kernel) (by decide +kernel), gT_mem (i := 61) (by decide +kernel) (by decide +kernel), by decide +kernel⟩
theorem mi_X10_count : Cond.instanceMethod yX10_count ∈ gT := gT_mem (i := 812) (by decide +kernel) (by decide +kernel)
theorem ms_X10_count : Cond.selects RX10 yX10_count yX10_count ∈ gT := gT_mem (i := 813) (by decide +kernel) (by decide +kernel)
def Y_X10_isWithin : MD := (yX10_isWithin, cX10_isWithin, 3, (some .boolean), 0, 0, 0, 0)
theorem mc_X10_isWithin : MC Y_X10_isWithin 3 := ⟨gT_mem (i := 383) (by decide +kernel) (by decide +kernel), gT_mem (i := 61) (by decide +kernel) (by decide +kernel), by decide +kernel⟩
theorem mt_X10_isWithin : Cond.static yX10_isWithin ∈ gT := gT_mem (i := 382) (by decide +kernel) (by decide +kernel)
def Y_X10_isSendable : MD := (yX10_isSendable, cX10_isSendable, 5, (some .boolean), 1, 22, 0, 0)
theorem mc_X10_isSendable : MC Y_X10_isSendable 4 := ⟨gT_mem (i := 507) (by decide +kernel) (by decide +kernel), gT_mem (i := 61) (by decide +kernel) (by decide +kernel), by decide +kernel⟩
theorem mi_X10_isSendable : Cond.instanceMethod yX10_isSendable ∈ gT := gT_mem (i := 506) (by decide +kernel) (by decide +kernel)
theorem ms_X10_isSendable : Cond.selects RX10 yX10_isSendable yX10_isSendable ∈ gT := gT_mem (i := 7) (by decide +kernel) (by decide +kernel)
def Y_X10_predict : MD := (yX10_predict, cX10_predict, 5, (some .int), 21, 1025, 0, 0)
theorem mc_X10_predict : MC Y_X10_predict 4 := ⟨gT_mem (i := 770) (by decide +kernel) (by decide +kernel), gT_mem (i := 61) (by decide +kernel) (by decide +kernel), by decide +kernel⟩
theorem mi_X10_predict : Cond.instanceMethod yX10_predict ∈ gT := gT_mem (i := 769) (by decide +kernel) (by decide +kernel)
theorem ms_X10_predict : Cond.selects RX10 yX10_predict yX10_predict ∈ gT := gT_mem (i := 18) (by decide +kernel) (by decide +kernel)
def Y_X10_explainsAll : MD := (yX10_explainsAll, cX10_explainsAll, 6, (some .boolean), 22, 1049, 0, 0)
theorem mc_X10_explainsAll : MC Y_X10_explainsAll 1 := ⟨gT_mem (i := 798) (by decide +kernel) (by decide +kernel), gT_mem (i := 61) (by decide +kernel) (by decide +kernel), by decide +kernel⟩
theorem mi_X10_explainsAll : Cond.instanceMethod yX10_explainsAll ∈ gT := gT_mem (i := 797) (by decide +kernel) (by decide +kernel)
theorem ms_X10_explainsAll : Cond.selects RX10 yX10_explainsAll yX10_explainsAll ∈ gT := gT_mem (i := 19) (by decide +kernel) (by decide +kernel)
def Y_X10_imageAt : MD := (yX10_imageAt, cX10_imageAt, 2, (some (.object "ContactWays$Situation")), 0, 0, 0, 0)
theorem mc_X10_imageAt : MC Y_X10_imageAt 1 := ⟨gT_mem (i := 806) (by decide +kernel) (by decide +kernel), gT_mem (i := 61) (by decide +kernel) (by decide +kernel), by decide +kernel⟩
theorem mi_X10_imageAt : Cond.instanceMethod yX10_imageAt ∈ gT := gT_mem (i := 805) (by decide +kernel) (by decide +kernel)
theorem ms_X10_imageAt : Cond.selects RX10 yX10_imageAt yX10_imageAt ∈ gT := gT_mem (i := 20) (by decide +kernel) (by decide +kernel)
def Y_X11_init : MD := (yX11_init, cX11_init, 1, none, 1, 21, 15, 3068)
theorem mc_X11_init : MC Y_X11_init 0 := ⟨gT_mem (i := 819) (by decide +kernel) (by decide +kernel), gT_mem (i := 73) (by decide +kernel) (by decide +kernel), by decide +kernel⟩
theorem mi_X11_init : Cond.instanceMethod yX11_init ∈ gT := gT_mem (i := 818) (by decide +kernel) (by decide +kernel)
def Y_X11_in : MD := (yX11_in, cX11_in, 3, (some .boolean), 0, 0, 0, 0)
theorem mc_X11_in : MC Y_X11_in 3 := ⟨gT_mem (i := 921) (by decide +kernel) (by decide +kernel), gT_mem (i := 73) (by decide +kernel) (by decide +kernel), by decide +kernel⟩
theorem mt_X11_in : Cond.static yX11_in ∈ gT := gT_mem (i := 920) (by decide +kernel) (by decide +kernel)
def Y_X11_isNode : MD := (yX11_isNode, cX11_isNode, 2, (some .boolean), 1, 22, 0, 0)
theorem mc_X11_isNode : MC Y_X11_isNode 1 := ⟨gT_mem (i := 969) (by decide +kernel) (by decide +kernel), gT_mem (i := 73) (by decide +kernel) (by decide +kernel), by decide +kernel⟩
theorem mi_X11_isNode : Cond.instanceMethod yX11_isNode ∈ gT := gT_mem (i := 968) (by decide +kernel) (by decide +kernel)
theorem ms_X11_isNode : Cond.selects RX11 yX11_isNode yX11_isNode ∈ gT := gT_mem (i := 30) (by decide +kernel) (by decide +kernel)
def Y_X11_isContact : MD := (yX11_isContact, cX11_isContact, 2, (some .boolean), 1, 22, 0, 0)
theorem mc_X11_isContact : MC Y_X11_isContact 1 := ⟨gT_mem (i := 957) (by decide +kernel) (by decide +kernel), gT_mem (i := 73) (by decide +kernel) (by decide +kernel), by decide +kernel⟩
theorem mi_X11_isContact : Cond.instanceMethod yX11_isContact ∈ gT := gT_mem (i := 956) (by decide +kernel) (by decide +kernel)
theorem ms_X11_isContact : Cond.selects RX11 yX11_isContact yX11_isContact ∈ gT := gT_mem (i := 28) (by decide +kernel) (by decide +kernel)
def Y_X11_isBundle : MD := (yX11_isBundle, cX11_isBundle, 2, (some .boolean), 1, 22, 0, 0)
theorem mc_X11_isBundle : MC Y_X11_isBundle 1 := ⟨gT_mem (i := 1071) (by decide +kernel) (by decide +kernel), gT_mem (i := 73) (by decide +kernel) (by decide +kernel), by decide +kernel⟩
theorem mi_X11_isBundle : Cond.instanceMethod yX11_isBundle ∈ gT := gT_mem (i := 1070) (by decide +kernel) (by decide +kernel)
theorem ms_X11_isBundle : Cond.selects RX11 yX11_isBundle yX11_isBundle ∈ gT := gT_mem (i := 53) (by decide +kernel) (by decide +kernel)
def Y_X11_isMissed : MD := (yX11_isMissed, cX11_isMissed, 2, (some .boolean), 0, 0, 0, 0)
theorem mc_X11_isMissed : MC Y_X11_isMissed 1 := ⟨gT_mem (i := 961) (by decide +kernel) (by decide +kernel), gT_mem (i := 73) (by decide +kernel) (by decide +kernel), by decide +kernel⟩
theorem mi_X11_isMissed : Cond.instanceMethod yX11_isMissed ∈ gT := gT_mem (i := 960) (by decide +kernel) (by decide +kernel)
theorem ms_X11_isMissed : Cond.selects RX11 yX11_isMissed yX11_isMissed ∈ gT := gT_mem (i := 29) (by decide +kernel) (by decide +kernel)
def Y_X11_type : MD := (yX11_type, cX11_type, 2, (some .int), 1, 22, 0, 0)
theorem mc_X11_type : MC Y_X11_type 1 := ⟨gT_mem (i := 918) (by decide +kernel) (by decide +kernel), gT_mem (i := 73) (by decide +kernel) (by decide +kernel), by decide +kernel⟩
theorem mi_X11_type : Cond.instanceMethod yX11_type ∈ gT := gT_mem (i := 916) (by decide +kernel) (by decide +kernel)
theorem ms_X11_type : Cond.selects RX11 yX11_type yX11_type ∈ gT := gT_mem (i := 917) (by decide +kernel) (by decide +kernel)
def Y_X11_clear : MD := (yX11_clear, cX11_clear, 2, (some .int), 0, 0, 0, 0)
theorem mc_X11_clear : MC Y_X11_clear 0 := ⟨gT_mem (i := 925) (by decide +kernel) (by decide +kernel), gT_mem (i := 73) (by decide +kernel) (by decide +kernel), by decide +kernel⟩
theorem mi_X11_clear : Cond.instanceMethod yX11_clear ∈ gT := gT_mem (i := 923) (by decide +kernel) (by decide +kernel)
theorem ms_X11_clear : Cond.selects RX11 yX11_clear yX11_clear ∈ gT := gT_mem (i := 924) (by decide +kernel) (by decide +kernel)
def Y_X11_isFigure : MD := (yX11_isFigure, cX11_isFigure, 2, (some .boolean), 1, 22, 0, 0)
theorem mc_X11_isFigure : MC Y_X11_isFigure 1 := ⟨gT_mem (i := 937) (by decide +kernel) (by decide +kernel), gT_mem (i := 73) (by decide +kernel) (by decide +kernel), by decide +kernel⟩
theorem mi_X11_isFigure : Cond.instanceMethod yX11_isFigure ∈ gT := gT_mem (i := 936) (by decide +kernel) (by decide +kernel)
theorem ms_X11_isFigure : Cond.selects RX11 yX11_isFigure yX11_isFigure ∈ gT := gT_mem (i := 24) (by decide +kernel) (by decide +kernel)
def Y_X11_takes : MD := (yX11_takes, cX11_takes, 2, none, 2, 43, 0, 0)
theorem mc_X11_takes : MC Y_X11_takes 0 := ⟨gT_mem (i := 933) (by decide +kernel) (by decide +kernel), gT_mem (i := 73) (by decide +kernel) (by decide +kernel), by decide +kernel⟩
theorem mi_X11_takes : Cond.instanceMethod yX11_takes ∈ gT := gT_mem (i := 932) (by decide +kernel) (by decide +kernel)
theorem ms_X11_takes : Cond.selects RX11 yX11_takes yX11_takes ∈ gT := gT_mem (i := 23) (by decide +kernel) (by decide +kernel)
def Y_X11_reads : MD := (yX11_reads, cX11_reads, 4, (some .boolean), 3, 64, 0, 0)
theorem mc_X11_reads : MC Y_X11_reads 3 := ⟨gT_mem (i := 949) (by decide +kernel) (by decide +kernel), gT_mem (i := 73) (by decide +kernel) (by decide +kernel), by decide +kernel⟩
theorem mi_X11_reads : Cond.instanceMethod yX11_reads ∈ gT := gT_mem (i := 948) (by decide +kernel) (by decide +kernel)
theorem ms_X11_reads : Cond.selects RX11 yX11_reads yX11_reads ∈ gT := gT_mem (i := 27) (by decide +kernel) (by decide +kernel)
def Y_X11_readsContact : MD := (yX11_readsContact, cX11_readsContact, 2, (some .boolean), 4, 87, 0, 0)
theorem mc_X11_readsContact : MC Y_X11_readsContact 0 := ⟨gT_mem (i := 945) (by decide +kernel) (by decide +kernel), gT_mem (i := 73) (by decide +kernel) (by decide +kernel), by decide +kernel⟩
theorem mi_X11_readsContact : Cond.instanceMethod yX11_readsContact ∈ gT := gT_mem (i := 944) (by decide +kernel) (by decide +kernel)
theorem ms_X11_readsContact : Cond.selects RX11 yX11_readsContact yX11_readsContact ∈ gT := gT_mem (i := 26) (by decide +kernel) (by decide +kernel)
def Y_X11_readsNodes : MD := (yX11_readsNodes, cX11_readsNodes, 2, (some .boolean), 3, 64, 0, 0)
theorem mc_X11_readsNodes : MC Y_X11_readsNodes 1 := ⟨gT_mem (i := 941) (by decide +kernel) (by decide +kernel), gT_mem (i := 73) (by decide +kernel) (by decide +kernel), by decide +kernel⟩
theorem mi_X11_readsNodes : Cond.instanceMethod yX11_readsNodes ∈ gT := gT_mem (i := 940) (by decide +kernel) (by decide +kernel)
theorem ms_X11_readsNodes : Cond.selects RX11 yX11_readsNodes yX11_readsNodes ∈ gT := gT_mem (i := 25) (by decide +kernel) (by decide +kernel)
def Y_X11_begins : MD := (yX11_begins, cX11_begins, 1, none, 0, 0, 0, 0)
theorem mc_X11_begins : MC Y_X11_begins 0 := ⟨gT_mem (i := 824) (by decide +kernel) (by decide +kernel), gT_mem (i := 73) (by decide +kernel) (by decide +kernel), by decide +kernel⟩
theorem mi_X11_begins : Cond.instanceMethod yX11_begins ∈ gT := gT_mem (i := 823) (by decide +kernel) (by decide +kernel)
theorem ms_X11_begins : Cond.selects RX11 yX11_begins yX11_begins ∈ gT := gT_mem (i := 21) (by decide +kernel) (by decide +kernel)
def Y_X11_becomes : MD := (yX11_becomes, cX11_becomes, 2, none, 0, 0, 0, 0)
theorem mc_X11_becomes : MC Y_X11_becomes 0 := ⟨gT_mem (i := 828) (by decide +kernel) (by decide +kernel), gT_mem (i := 73) (by decide +kernel) (by decide +kernel), by decide +kernel⟩
theorem mi_X11_becomes : Cond.instanceMethod yX11_becomes ∈ gT := gT_mem (i := 827) (by decide +kernel) (by decide +kernel)
theorem ms_X11_becomes : Cond.selects RX11 yX11_becomes yX11_becomes ∈ gT := gT_mem (i := 22) (by decide +kernel) (by decide +kernel)
def Y_X11_plan : MD := (yX11_plan, cX11_plan, 3, (some .int), 5, 108, 0, 0)
theorem mc_X11_plan : MC Y_X11_plan 0 := ⟨gT_mem (i := 929) (by decide +kernel) (by decide +kernel), gT_mem (i := 73) (by decide +kernel) (by decide +kernel), by decide +kernel⟩
theorem mi_X11_plan : Cond.instanceMethod yX11_plan ∈ gT := gT_mem (i := 927) (by decide +kernel) (by decide +kernel)
theorem ms_X11_plan : Cond.selects RX11 yX11_plan yX11_plan ∈ gT := gT_mem (i := 928) (by decide +kernel) (by decide +kernel)
def Y_X11_contact : MD := (yX11_contact, cX11_contact, 3, (some .int), 2, 43, 0, 0)
theorem mc_X11_contact : MC Y_X11_contact 2 := ⟨gT_mem (i := 953) (by decide +kernel) (by decide +kernel), gT_mem (i := 73) (by decide +kernel) (by decide +kernel), by decide +kernel⟩
theorem mi_X11_contact : Cond.instanceMethod yX11_contact ∈ gT := gT_mem (i := 951) (by decide +kernel) (by decide +kernel)
theorem ms_X11_contact : Cond.selects RX11 yX11_contact yX11_contact ∈ gT := gT_mem (i := 952) (by decide +kernel) (by decide +kernel)
def Y_X11_at : MD := (yX11_at, cX11_at, 1, (some .int), 0, 0, 0, 0)
theorem mc_X11_at : MC Y_X11_at 1 := ⟨gT_mem (i := 980) (by decide +kernel) (by decide +kernel), gT_mem (i := 73) (by decide +kernel) (by decide +kernel), by decide +kernel⟩
theorem mt_X11_at : Cond.static yX11_at ∈ gT := gT_mem (i := 979) (by decide +kernel) (by decide +kernel)
def Y_X11_its : MD := (yX11_its, cX11_its, 3, (some .int), 1, 20, 0, 0)
theorem mc_X11_its : MC Y_X11_its 2 := ⟨gT_mem (i := 991) (by decide +kernel) (by decide +kernel), gT_mem (i := 73) (by decide +kernel) (by decide +kernel), by decide +kernel⟩
theorem mi_X11_its : Cond.instanceMethod yX11_its ∈ gT := gT_mem (i := 990) (by decide +kernel) (by decide +kernel)
theorem ms_X11_its : Cond.selects RX11 yX11_its yX11_its ∈ gT := gT_mem (i := 34) (by decide +kernel) (by decide +kernel)
def Y_X11_ticks : MD := (yX11_ticks, cX11_ticks, 4, (some .int), 0, 0, 0, 0)
theorem mc_X11_ticks : MC Y_X11_ticks 2 := ⟨gT_mem (i := 1019) (by decide +kernel) (by decide +kernel), gT_mem (i := 73) (by decide +kernel) (by decide +kernel), by decide +kernel⟩
theorem mi_X11_ticks : Cond.instanceMethod yX11_ticks ∈ gT := gT_mem (i := 1018) (by decide +kernel) (by decide +kernel)
theorem ms_X11_ticks : Cond.selects RX11 yX11_ticks yX11_ticks ∈ gT := gT_mem (i := 41) (by decide +kernel) (by decide +kernel)
def Y_X11_arrival : MD := (yX11_arrival, cX11_arrival, 4, (some .int), 2, 42, 0, 0)
theorem mc_X11_arrival : MC Y_X11_arrival 3 := ⟨gT_mem (i := 1015) (by decide +kernel) (by decide +kernel), gT_mem (i := 73) (by decide +kernel) (by decide +kernel), by decide +kernel⟩
theorem mi_X11_arrival : Cond.instanceMethod yX11_arrival ∈ gT := gT_mem (i := 1014) (by decide +kernel) (by decide +kernel)
theorem ms_X11_arrival : Cond.selects RX11 yX11_arrival yX11_arrival ∈ gT := gT_mem (i := 40) (by decide +kernel) (by decide +kernel)
def Y_X11_isOn : MD := (yX11_isOn, cX11_isOn, 2, (some .boolean), 2, 42, 0, 0)
theorem mc_X11_isOn : MC Y_X11_isOn 1 := ⟨gT_mem (i := 1007) (by decide +kernel) (by decide +kernel), gT_mem (i := 73) (by decide +kernel) (by decide +kernel), by decide +kernel⟩
theorem mi_X11_isOn : Cond.instanceMethod yX11_isOn ∈ gT := gT_mem (i := 1006) (by decide +kernel) (by decide +kernel)
theorem ms_X11_isOn : Cond.selects RX11 yX11_isOn yX11_isOn ∈ gT := gT_mem (i := 38) (by decide +kernel) (by decide +kernel)
def Y_X11_leads : MD := (yX11_leads, cX11_leads, 2, (some .int), 3, 63, 0, 0)
theorem mc_X11_leads : MC Y_X11_leads 1 := ⟨gT_mem (i := 1011) (by decide +kernel) (by decide +kernel), gT_mem (i := 73) (by decide +kernel) (by decide +kernel), by decide +kernel⟩
theorem mi_X11_leads : Cond.instanceMethod yX11_leads ∈ gT := gT_mem (i := 1010) (by decide +kernel) (by decide +kernel)
theorem ms_X11_leads : Cond.selects RX11 yX11_leads yX11_leads ∈ gT := gT_mem (i := 39) (by decide +kernel) (by decide +kernel)
def Y_X11_stateOf : MD := (yX11_stateOf, cX11_stateOf, 2, (some .int), 4, 84, 0, 0)
theorem mc_X11_stateOf : MC Y_X11_stateOf 1 := ⟨gT_mem (i := 1003) (by decide +kernel) (by decide +kernel), gT_mem (i := 73) (by decide +kernel) (by decide +kernel), by decide +kernel⟩
theorem mi_X11_stateOf : Cond.instanceMethod yX11_stateOf ∈ gT := gT_mem (i := 1002) (by decide +kernel) (by decide +kernel)
theorem ms_X11_stateOf : Cond.selects RX11 yX11_stateOf yX11_stateOf ∈ gT := gT_mem (i := 37) (by decide +kernel) (by decide +kernel)
def Y_X11_countOf : MD := (yX11_countOf, cX11_countOf, 4, (some .int), 5, 105, 0, 0)
theorem mc_X11_countOf : MC Y_X11_countOf 1 := ⟨gT_mem (i := 1095) (by decide +kernel) (by decide +kernel), gT_mem (i := 73) (by decide +kernel) (by decide +kernel), by decide +kernel⟩
theorem mi_X11_countOf : Cond.instanceMethod yX11_countOf ∈ gT := gT_mem (i := 1094) (by decide +kernel) (by decide +kernel)
theorem ms_X11_countOf : Cond.selects RX11 yX11_countOf yX11_countOf ∈ gT := gT_mem (i := 57) (by decide +kernel) (by decide +kernel)
def Y_X11_marks : MD := (yX11_marks, cX11_marks, 5, none, 1, 23, 0, 0)
theorem mc_X11_marks : MC Y_X11_marks 3 := ⟨gT_mem (i := 1027) (by decide +kernel) (by decide +kernel), gT_mem (i := 73) (by decide +kernel) (by decide +kernel), by decide +kernel⟩
theorem mi_X11_marks : Cond.instanceMethod yX11_marks ∈ gT := gT_mem (i := 1026) (by decide +kernel) (by decide +kernel)
theorem ms_X11_marks : Cond.selects RX11 yX11_marks yX11_marks ∈ gT := gT_mem (i := 43) (by decide +kernel) (by decide +kernel)
def Y_X11_laysTaken : MD := (yX11_laysTaken, cX11_laysTaken, 5, none, 3, 63, 0, 0)
theorem mc_X11_laysTaken : MC Y_X11_laysTaken 2 := ⟨gT_mem (i := 1023) (by decide +kernel) (by decide +kernel), gT_mem (i := 73) (by decide +kernel) (by decide +kernel), by decide +kernel⟩
theorem mi_X11_laysTaken : Cond.instanceMethod yX11_laysTaken ∈ gT := gT_mem (i := 1022) (by decide +kernel) (by decide +kernel)
theorem ms_X11_laysTaken : Cond.selects RX11 yX11_laysTaken yX11_laysTaken ∈ gT := gT_mem (i := 42) (by decide +kernel) (by decide +kernel)
def Y_X11_beginsAt : MD := (yX11_beginsAt, cX11_beginsAt, 7, (some .int), 1, 23, 0, 0)
theorem mc_X11_beginsAt : MC Y_X11_beginsAt 3 := ⟨gT_mem (i := 1043) (by decide +kernel) (by decide +kernel), gT_mem (i := 73) (by decide +kernel) (by decide +kernel), by decide +kernel⟩
theorem mi_X11_beginsAt : Cond.instanceMethod yX11_beginsAt ∈ gT := gT_mem (i := 1042) (by decide +kernel) (by decide +kernel)
theorem ms_X11_beginsAt : Cond.selects RX11 yX11_beginsAt yX11_beginsAt ∈ gT := gT_mem (i := 47) (by decide +kernel) (by decide +kernel)
def Y_X11_endsAt : MD := (yX11_endsAt, cX11_endsAt, 5, (some .int), 2, 49, 0, 0)
theorem mc_X11_endsAt : MC Y_X11_endsAt 3 := ⟨gT_mem (i := 1039) (by decide +kernel) (by decide +kernel), gT_mem (i := 73) (by decide +kernel) (by decide +kernel), by decide +kernel⟩
theorem mi_X11_endsAt : Cond.instanceMethod yX11_endsAt ∈ gT := gT_mem (i := 1038) (by decide +kernel) (by decide +kernel)
theorem ms_X11_endsAt : Cond.selects RX11 yX11_endsAt yX11_endsAt ∈ gT := gT_mem (i := 46) (by decide +kernel) (by decide +kernel)
def Y_X11_laysFirst : MD := (yX11_laysFirst, cX11_laysFirst, 11, none, 3, 73, 0, 0)
theorem mc_X11_laysFirst : MC Y_X11_laysFirst 5 := ⟨gT_mem (i := 1035) (by decide +kernel) (by decide +kernel), gT_mem (i := 73) (by decide +kernel) (by decide +kernel), by decide +kernel⟩
theorem mi_X11_laysFirst : Cond.instanceMethod yX11_laysFirst ∈ gT := gT_mem (i := 1034) (by decide +kernel) (by decide +kernel)
theorem ms_X11_laysFirst : Cond.selects RX11 yX11_laysFirst yX11_laysFirst ∈ gT := gT_mem (i := 45) (by decide +kernel) (by decide +kernel)
def Y_X11_leadsThere : MD := (yX11_leadsThere, cX11_leadsThere, 7, (some .boolean), 4, 103, 0, 0)
theorem mc_X11_leadsThere : MC Y_X11_leadsThere 6 := ⟨gT_mem (i := 1051) (by decide +kernel) (by decide +kernel), gT_mem (i := 73) (by decide +kernel) (by decide +kernel), by decide +kernel⟩
theorem mi_X11_leadsThere : Cond.instanceMethod yX11_leadsThere ∈ gT := gT_mem (i := 1050) (by decide +kernel) (by decide +kernel)
theorem ms_X11_leadsThere : Cond.selects RX11 yX11_leadsThere yX11_leadsThere ∈ gT := gT_mem (i := 49) (by decide +kernel) (by decide +kernel)
def Y_X11_findsEnd : MD := (yX11_findsEnd, cX11_findsEnd, 6, (some .boolean), 4, 103, 0, 0)
theorem mc_X11_findsEnd : MC Y_X11_findsEnd 5 := ⟨gT_mem (i := 1031) (by decide +kernel) (by decide +kernel), gT_mem (i := 73) (by decide +kernel) (by decide +kernel), by decide +kernel⟩
theorem mi_X11_findsEnd : Cond.instanceMethod yX11_findsEnd ∈ gT := gT_mem (i := 1030) (by decide +kernel) (by decide +kernel)
theorem ms_X11_findsEnd : Cond.selects RX11 yX11_findsEnd yX11_findsEnd ∈ gT := gT_mem (i := 44) (by decide +kernel) (by decide +kernel)
def Y_X11_findsWay : MD := (yX11_findsWay, cX11_findsWay, 11, none, 5, 129, 0, 0)
theorem mc_X11_findsWay : MC Y_X11_findsWay 4 := ⟨gT_mem (i := 1047) (by decide +kernel) (by decide +kernel), gT_mem (i := 73) (by decide +kernel) (by decide +kernel), by decide +kernel⟩
theorem mi_X11_findsWay : Cond.instanceMethod yX11_findsWay ∈ gT := gT_mem (i := 1046) (by decide +kernel) (by decide +kernel)
theorem ms_X11_findsWay : Cond.selects RX11 yX11_findsWay yX11_findsWay ∈ gT := gT_mem (i := 48) (by decide +kernel) (by decide +kernel)
def Y_X11_has : MD := (yX11_has, cX11_has, 2, (some .boolean), 0, 0, 0, 0)
theorem mc_X11_has : MC Y_X11_has 2 := ⟨gT_mem (i := 987) (by decide +kernel) (by decide +kernel), gT_mem (i := 73) (by decide +kernel) (by decide +kernel), by decide +kernel⟩
theorem mt_X11_has : Cond.static yX11_has ∈ gT := gT_mem (i := 986) (by decide +kernel) (by decide +kernel)
def Y_X11_givesUp : MD := (yX11_givesUp, cX11_givesUp, 2, none, 1, 20, 0, 0)
theorem mc_X11_givesUp : MC Y_X11_givesUp 1 := ⟨gT_mem (i := 999) (by decide +kernel) (by decide +kernel), gT_mem (i := 73) (by decide +kernel) (by decide +kernel), by decide +kernel⟩
theorem mi_X11_givesUp : Cond.instanceMethod yX11_givesUp ∈ gT := gT_mem (i := 998) (by decide +kernel) (by decide +kernel)
theorem ms_X11_givesUp : Cond.selects RX11 yX11_givesUp yX11_givesUp ∈ gT := gT_mem (i := 36) (by decide +kernel) (by decide +kernel)
def Y_X11_meets : MD := (yX11_meets, cX11_meets, 8, (some .boolean), 2, 42, 0, 0)
theorem mc_X11_meets : MC Y_X11_meets 4 := ⟨gT_mem (i := 1059) (by decide +kernel) (by decide +kernel), gT_mem (i := 73) (by decide +kernel) (by decide +kernel), by decide +kernel⟩
theorem mi_X11_meets : Cond.instanceMethod yX11_meets ∈ gT := gT_mem (i := 1058) (by decide +kernel) (by decide +kernel)
theorem ms_X11_meets : Cond.selects RX11 yX11_meets yX11_meets ∈ gT := gT_mem (i := 51) (by decide +kernel) (by decide +kernel)
def Y_X11_pushesOut : MD := (yX11_pushesOut, cX11_pushesOut, 7, (some .int), 3, 69, 0, 0)
theorem mc_X11_pushesOut : MC Y_X11_pushesOut 1 := ⟨gT_mem (i := 1055) (by decide +kernel) (by decide +kernel), gT_mem (i := 73) (by decide +kernel) (by decide +kernel), by decide +kernel⟩
theorem mi_X11_pushesOut : Cond.instanceMethod yX11_pushesOut ∈ gT := gT_mem (i := 1054) (by decide +kernel) (by decide +kernel)
theorem ms_X11_pushesOut : Cond.selects RX11 yX11_pushesOut yX11_pushesOut ∈ gT := gT_mem (i := 50) (by decide +kernel) (by decide +kernel)
def Y_X11_plans : MD := (yX11_plans, cX11_plans, 7, (some .int), 6, 159, 0, 0)
theorem mc_X11_plans : MC Y_X11_plans 1 := ⟨gT_mem (i := 995) (by decide +kernel) (by decide +kernel), gT_mem (i := 73) (by decide +kernel) (by decide +kernel), by decide +kernel⟩
theorem mi_X11_plans : Cond.instanceMethod yX11_plans ∈ gT := gT_mem (i := 994) (by decide +kernel) (by decide +kernel)
theorem ms_X11_plans : Cond.selects RX11 yX11_plans yX11_plans ∈ gT := gT_mem (i := 35) (by decide +kernel) (by decide +kernel)
def Y_X11_plansAll : MD := (yX11_plansAll, cX11_plansAll, 5, none, 7, 185, 0, 0)
theorem mc_X11_plansAll : MC Y_X11_plansAll 1 := ⟨gT_mem (i := 984) (by decide +kernel) (by decide +kernel), gT_mem (i := 73) (by decide +kernel) (by decide +kernel), by decide +kernel⟩
theorem mi_X11_plansAll : Cond.instanceMethod yX11_plansAll ∈ gT := gT_mem (i := 983) (by decide +kernel) (by decide +kernel)
theorem ms_X11_plansAll : Cond.selects RX11 yX11_plansAll yX11_plansAll ∈ gT := gT_mem (i := 33) (by decide +kernel) (by decide +kernel)
def Y_X11_copies : MD := (yX11_copies, cX11_copies, 6, none, 0, 0, 0, 0)
theorem mc_X11_copies : MC Y_X11_copies 4 := ⟨gT_mem (i := 977) (by decide +kernel) (by decide +kernel), gT_mem (i := 73) (by decide +kernel) (by decide +kernel), by decide +kernel⟩
theorem mi_X11_copies : Cond.instanceMethod yX11_copies ∈ gT := gT_mem (i := 976) (by decide +kernel) (by decide +kernel)
theorem ms_X11_copies : Cond.selects RX11 yX11_copies yX11_copies ∈ gT := gT_mem (i := 32) (by decide +kernel) (by decide +kernel)
def Y_X11_notes : MD := (yX11_notes, cX11_notes, 2, none, 1, 25, 0, 0)
theorem mc_X11_notes : MC Y_X11_notes 0 := ⟨gT_mem (i := 973) (by decide +kernel) (by decide +kernel), gT_mem (i := 73) (by decide +kernel) (by decide +kernel), by decide +kernel⟩
theorem mi_X11_notes : Cond.instanceMethod yX11_notes ∈ gT := gT_mem (i := 972) (by decide +kernel) (by decide +kernel)
theorem ms_X11_notes : Cond.selects RX11 yX11_notes yX11_notes ∈ gT := gT_mem (i := 31) (by decide +kernel) (by decide +kernel)
def Y_X11_sends : MD := (yX11_sends, cX11_sends, 7, (some .int), 8, 209, 0, 0)
theorem mc_X11_sends : MC Y_X11_sends 5 := ⟨gT_mem (i := 965) (by decide +kernel) (by decide +kernel), gT_mem (i := 73) (by decide +kernel) (by decide +kernel), by decide +kernel⟩
theorem mi_X11_sends : Cond.instanceMethod yX11_sends ∈ gT := gT_mem (i := 963) (by decide +kernel) (by decide +kernel)
theorem ms_X11_sends : Cond.selects RX11 yX11_sends yX11_sends ∈ gT := gT_mem (i := 964) (by decide +kernel) (by decide +kernel)
def Y_X11_lastEnd : MD := (yX11_lastEnd, cX11_lastEnd, 3, (some .int), 3, 65, 0, 0)
theorem mc_X11_lastEnd : MC Y_X11_lastEnd 1 := ⟨gT_mem (i := 1063) (by decide +kernel) (by decide +kernel), gT_mem (i := 73) (by decide +kernel) (by decide +kernel), by decide +kernel⟩
theorem mi_X11_lastEnd : Cond.instanceMethod yX11_lastEnd ∈ gT := gT_mem (i := 1062) (by decide +kernel) (by decide +kernel)
theorem ms_X11_lastEnd : Cond.selects RX11 yX11_lastEnd yX11_lastEnd ∈ gT := gT_mem (i := 52) (by decide +kernel) (by decide +kernel)
def Y_X11_drops : MD := (yX11_drops, cX11_drops, 2, (some .int), 5, 105, 0, 0)
theorem mc_X11_drops : MC Y_X11_drops 1 := ⟨gT_mem (i := 1067) (by decide +kernel) (by decide +kernel), gT_mem (i := 73) (by decide +kernel) (by decide +kernel), by decide +kernel⟩
theorem mi_X11_drops : Cond.instanceMethod yX11_drops ∈ gT := gT_mem (i := 1065) (by decide +kernel) (by decide +kernel)
theorem ms_X11_drops : Cond.selects RX11 yX11_drops yX11_drops ∈ gT := gT_mem (i := 1066) (by decide +kernel) (by decide +kernel)
def Y_X11_moves : MD := (yX11_moves, cX11_moves, 5, none, 3, 65, 0, 0)
theorem mc_X11_moves : MC Y_X11_moves 1 := ⟨gT_mem (i := 1079) (by decide +kernel) (by decide +kernel), gT_mem (i := 73) (by decide +kernel) (by decide +kernel), by decide +kernel⟩
theorem mi_X11_moves : Cond.instanceMethod yX11_moves ∈ gT := gT_mem (i := 1078) (by decide +kernel) (by decide +kernel)
theorem ms_X11_moves : Cond.selects RX11 yX11_moves yX11_moves ∈ gT := gT_mem (i := 54) (by decide +kernel) (by decide +kernel)
def Y_X11_passes : MD := (yX11_passes, cX11_passes, 3, (some .int), 4, 89, 0, 0)
theorem mc_X11_passes : MC Y_X11_passes 1 := ⟨gT_mem (i := 1075) (by decide +kernel) (by decide +kernel), gT_mem (i := 73) (by decide +kernel) (by decide +kernel), by decide +kernel⟩
theorem mi_X11_passes : Cond.instanceMethod yX11_passes ∈ gT := gT_mem (i := 1073) (by decide +kernel) (by decide +kernel)
theorem ms_X11_passes : Cond.selects RX11 yX11_passes yX11_passes ∈ gT := gT_mem (i := 1074) (by decide +kernel) (by decide +kernel)
def Y_X11_hasHopOn : MD := (yX11_hasHopOn, cX11_hasHopOn, 4, (some .boolean), 2, 42, 0, 0)
theorem mc_X11_hasHopOn : MC Y_X11_hasHopOn 2 := ⟨gT_mem (i := 1091) (by decide +kernel) (by decide +kernel), gT_mem (i := 73) (by decide +kernel) (by decide +kernel), by decide +kernel⟩
theorem mi_X11_hasHopOn : Cond.instanceMethod yX11_hasHopOn ∈ gT := gT_mem (i := 1090) (by decide +kernel) (by decide +kernel)
theorem ms_X11_hasHopOn : Cond.selects RX11 yX11_hasHopOn yX11_hasHopOn ∈ gT := gT_mem (i := 56) (by decide +kernel) (by decide +kernel)
def Y_X11_loses : MD := (yX11_loses, cX11_loses, 5, none, 8, 209, 0, 0)
theorem mc_X11_loses : MC Y_X11_loses 1 := ⟨gT_mem (i := 1087) (by decide +kernel) (by decide +kernel), gT_mem (i := 73) (by decide +kernel) (by decide +kernel), by decide +kernel⟩
theorem mi_X11_loses : Cond.instanceMethod yX11_loses ∈ gT := gT_mem (i := 1086) (by decide +kernel) (by decide +kernel)
theorem ms_X11_loses : Cond.selects RX11 yX11_loses yX11_loses ∈ gT := gT_mem (i := 55) (by decide +kernel) (by decide +kernel)
def Y_X11_misses : MD := (yX11_misses, cX11_misses, 2, (some .int), 9, 233, 0, 0)
theorem mc_X11_misses : MC Y_X11_misses 1 := ⟨gT_mem (i := 1083) (by decide +kernel) (by decide +kernel), gT_mem (i := 73) (by decide +kernel) (by decide +kernel), by decide +kernel⟩
theorem mi_X11_misses : Cond.instanceMethod yX11_misses ∈ gT := gT_mem (i := 1081) (by decide +kernel) (by decide +kernel)
theorem ms_X11_misses : Cond.selects RX11 yX11_misses yX11_misses ∈ gT := gT_mem (i := 1082) (by decide +kernel) (by decide +kernel)
def Y_X11_finds : MD := (yX11_finds, cX11_finds, 4, (some .int), 8, 209, 0, 0)
theorem mc_X11_finds : MC Y_X11_finds 1 := ⟨gT_mem (i := 1099) (by decide +kernel) (by decide +kernel), gT_mem (i := 73) (by decide +kernel) (by decide +kernel), by decide +kernel⟩
theorem mi_X11_finds : Cond.instanceMethod yX11_finds ∈ gT := gT_mem (i := 1097) (by decide +kernel) (by decide +kernel)
theorem ms_X11_finds : Cond.selects RX11 yX11_finds yX11_finds ∈ gT := gT_mem (i := 1098) (by decide +kernel) (by decide +kernel)
def Y_X11_undo : MD := (yX11_undo, cX11_undo, 1, (some .int), 1, 25, 0, 0)
theorem mc_X11_undo : MC Y_X11_undo 0 := ⟨gT_mem (i := 1103) (by decide +kernel) (by decide +kernel), gT_mem (i := 73) (by decide +kernel) (by decide +kernel), by decide +kernel⟩
theorem mi_X11_undo : Cond.instanceMethod yX11_undo ∈ gT := gT_mem (i := 1101) (by decide +kernel) (by decide +kernel)
theorem ms_X11_undo : Cond.selects RX11 yX11_undo yX11_undo ∈ gT := gT_mem (i := 1102) (by decide +kernel) (by decide +kernel)
def Y_X11_bundle : MD := (yX11_bundle, cX11_bundle, 4, (some .int), 5, 105, 0, 0)
theorem mc_X11_bundle : MC Y_X11_bundle 2 := ⟨gT_mem (i := 1107) (by decide +kernel) (by decide +kernel), gT_mem (i := 73) (by decide +kernel) (by decide +kernel), by decide +kernel⟩
theorem mi_X11_bundle : Cond.instanceMethod yX11_bundle ∈ gT := gT_mem (i := 1105) (by decide +kernel) (by decide +kernel)
theorem ms_X11_bundle : Cond.selects RX11 yX11_bundle yX11_bundle ∈ gT := gT_mem (i := 1106) (by decide +kernel) (by decide +kernel)
def Y_X11_hop : MD := (yX11_hop, cX11_hop, 5, (some .int), 3, 63, 0, 0)
theorem mc_X11_hop : MC Y_X11_hop 3 := ⟨gT_mem (i := 1111) (by decide +kernel) (by decide +kernel), gT_mem (i := 73) (by decide +kernel) (by decide +kernel), by decide +kernel⟩
theorem mi_X11_hop : Cond.instanceMethod yX11_hop ∈ gT := gT_mem (i := 1109) (by decide +kernel) (by decide +kernel)
theorem ms_X11_hop : Cond.selects RX11 yX11_hop yX11_hop ∈ gT := gT_mem (i := 1110) (by decide +kernel) (by decide +kernel)
def Y_X11_takesTick : MD := (yX11_takesTick, cX11_takesTick, 5, (some .boolean), 2, 42, 0, 0)
theorem mc_X11_takesTick : MC Y_X11_takesTick 4 := ⟨gT_mem (i := 1119) (by decide +kernel) (by decide +kernel), gT_mem (i := 73) (by decide +kernel) (by decide +kernel), by decide +kernel⟩
theorem mi_X11_takesTick : Cond.instanceMethod yX11_takesTick ∈ gT := gT_mem (i := 1118) (by decide +kernel) (by decide +kernel)
theorem ms_X11_takesTick : Cond.selects RX11 yX11_takesTick yX11_takesTick ∈ gT := gT_mem (i := 58) (by decide +kernel) (by decide +kernel)
def Y_X11_tick : MD := (yX11_tick, cX11_tick, 6, (some .int), 3, 66, 0, 0)
theorem mc_X11_tick : MC Y_X11_tick 2 := ⟨gT_mem (i := 1115) (by decide +kernel) (by decide +kernel), gT_mem (i := 73) (by decide +kernel) (by decide +kernel), by decide +kernel⟩
theorem mi_X11_tick : Cond.instanceMethod yX11_tick ∈ gT := gT_mem (i := 1113) (by decide +kernel) (by decide +kernel)
theorem ms_X11_tick : Cond.selects RX11 yX11_tick yX11_tick ∈ gT := gT_mem (i := 1114) (by decide +kernel) (by decide +kernel)
def Y_X11_askedOf : MD := (yX11_askedOf, cX11_askedOf, 6, (some .int), 5, 128, 0, 0)
theorem mc_X11_askedOf : MC Y_X11_askedOf 5 := ⟨gT_mem (i := 1127) (by decide +kernel) (by decide +kernel), gT_mem (i := 73) (by decide +kernel) (by decide +kernel), by decide +kernel⟩
theorem mi_X11_askedOf : Cond.instanceMethod yX11_askedOf ∈ gT := gT_mem (i := 1126) (by decide +kernel) (by decide +kernel)
theorem ms_X11_askedOf : Cond.selects RX11 yX11_askedOf yX11_askedOf ∈ gT := gT_mem (i := 59) (by decide +kernel) (by decide +kernel)
def Y_X11_asks : MD := (yX11_asks, cX11_asks, 5, (some .int), 6, 153, 0, 0)
theorem mc_X11_asks : MC Y_X11_asks 4 := ⟨gT_mem (i := 1123) (by decide +kernel) (by decide +kernel), gT_mem (i := 73) (by decide +kernel) (by decide +kernel), by decide +kernel⟩
theorem mi_X11_asks : Cond.instanceMethod yX11_asks ∈ gT := gT_mem (i := 1121) (by decide +kernel) (by decide +kernel)
theorem ms_X11_asks : Cond.selects RX11 yX11_asks yX11_asks ∈ gT := gT_mem (i := 1122) (by decide +kernel) (by decide +kernel)
def Y_X11_largest : MD := (yX11_largest, cX11_largest, 7, (some .int), 6, 153, 0, 0)
theorem mc_X11_largest : MC Y_X11_largest 4 := ⟨gT_mem (i := 1131) (by decide +kernel) (by decide +kernel), gT_mem (i := 73) (by decide +kernel) (by decide +kernel), by decide +kernel⟩
theorem mi_X11_largest : Cond.instanceMethod yX11_largest ∈ gT := gT_mem (i := 1129) (by decide +kernel) (by decide +kernel)
theorem ms_X11_largest : Cond.selects RX11 yX11_largest yX11_largest ∈ gT := gT_mem (i := 1130) (by decide +kernel) (by decide +kernel)
def Y_X11_worst : MD := (yX11_worst, cX11_worst, 5, (some .int), 9, 233, 0, 0)
theorem mc_X11_worst : MC Y_X11_worst 0 := ⟨gT_mem (i := 1135) (by decide +kernel) (by decide +kernel), gT_mem (i := 73) (by decide +kernel) (by decide +kernel), by decide +kernel⟩
theorem mi_X11_worst : Cond.instanceMethod yX11_worst ∈ gT := gT_mem (i := 1133) (by decide +kernel) (by decide +kernel)
theorem ms_X11_worst : Cond.selects RX11 yX11_worst yX11_worst ∈ gT := gT_mem (i := 1134) (by decide +kernel) (by decide +kernel)
def Y_X11_sees : MD := (yX11_sees, cX11_sees, 4, (some .int), 2, 43, 0, 0)
theorem mc_X11_sees : MC Y_X11_sees 3 := ⟨gT_mem (i := 1139) (by decide +kernel) (by decide +kernel), gT_mem (i := 73) (by decide +kernel) (by decide +kernel), by decide +kernel⟩
theorem mi_X11_sees : Cond.instanceMethod yX11_sees ∈ gT := gT_mem (i := 1137) (by decide +kernel) (by decide +kernel)
theorem ms_X11_sees : Cond.selects RX11 yX11_sees yX11_sees ∈ gT := gT_mem (i := 1138) (by decide +kernel) (by decide +kernel)
def Y_X11_forget : MD := (yX11_forget, cX11_forget, 2, (some .int), 0, 0, 0, 0)
theorem mc_X11_forget : MC Y_X11_forget 0 := ⟨gT_mem (i := 1143) (by decide +kernel) (by decide +kernel), gT_mem (i := 73) (by decide +kernel) (by decide +kernel), by decide +kernel⟩
theorem mi_X11_forget : Cond.instanceMethod yX11_forget ∈ gT := gT_mem (i := 1141) (by decide +kernel) (by decide +kernel)
theorem ms_X11_forget : Cond.selects RX11 yX11_forget yX11_forget ∈ gT := gT_mem (i := 1142) (by decide +kernel) (by decide +kernel)
def Y_X11_unseen : MD := (yX11_unseen, cX11_unseen, 6, (some .int), 6, 153, 0, 0)
theorem mc_X11_unseen : MC Y_X11_unseen 0 := ⟨gT_mem (i := 1147) (by decide +kernel) (by decide +kernel), gT_mem (i := 73) (by decide +kernel) (by decide +kernel), by decide +kernel⟩
theorem mi_X11_unseen : Cond.instanceMethod yX11_unseen ∈ gT := gT_mem (i := 1145) (by decide +kernel) (by decide +kernel)
theorem ms_X11_unseen : Cond.selects RX11 yX11_unseen yX11_unseen ∈ gT := gT_mem (i := 1146) (by decide +kernel) (by decide +kernel)
def Y_X11_keep : MD := (yX11_keep, cX11_keep, 2, (some .int), 1, 25, 0, 0)
theorem mc_X11_keep : MC Y_X11_keep 1 := ⟨gT_mem (i := 1151) (by decide +kernel) (by decide +kernel), gT_mem (i := 73) (by decide +kernel) (by decide +kernel), by decide +kernel⟩
theorem mi_X11_keep : Cond.instanceMethod yX11_keep ∈ gT := gT_mem (i := 1149) (by decide +kernel) (by decide +kernel)
theorem ms_X11_keep : Cond.selects RX11 yX11_keep yX11_keep ∈ gT := gT_mem (i := 1150) (by decide +kernel) (by decide +kernel)
def Y_X11_back : MD := (yX11_back, cX11_back, 2, (some .int), 1, 25, 0, 0)
theorem mc_X11_back : MC Y_X11_back 1 := ⟨gT_mem (i := 1155) (by decide +kernel) (by decide +kernel), gT_mem (i := 73) (by decide +kernel) (by decide +kernel), by decide +kernel⟩
theorem mi_X11_back : Cond.instanceMethod yX11_back ∈ gT := gT_mem (i := 1153) (by decide +kernel) (by decide +kernel)
theorem ms_X11_back : Cond.selects RX11 yX11_back yX11_back ∈ gT := gT_mem (i := 1154) (by decide +kernel) (by decide +kernel)
def Y_X11_count : MD := (yX11_count, cX11_count, 2, (some .int), 6, 128, 0, 0)
theorem mc_X11_count : MC Y_X11_count 1 := ⟨gT_mem (i := 1159) (by decide +kernel) (by decide +kernel), gT_mem (i := 73) (by decide +kernel) (by decide +kernel), by decide +kernel⟩
theorem mi_X11_count : Cond.instanceMethod yX11_count ∈ gT := gT_mem (i := 1157) (by decide +kernel) (by decide +kernel)
theorem ms_X11_count : Cond.selects RX11 yX11_count yX11_count ∈ gT := gT_mem (i := 1158) (by decide +kernel) (by decide +kernel)
def Y_J6_bitCount_0f7a4 : MD := (yJ6_bitCount_0f7a4, cJ6_bitCount_0f7a4, 1, (some .int), 0, 0, 0, 0)
theorem mc_J6_bitCount_0f7a4 : MC Y_J6_bitCount_0f7a4 1 := ⟨gT_mem (i := 715) (by decide +kernel) (by decide +kernel), gT_mem (i := 74) (by decide +kernel) (by decide +kernel), by decide +kernel⟩
theorem mt_J6_bitCount_0f7a4 : Cond.static yJ6_bitCount_0f7a4 ∈ gT := gT_mem (i := 714) (by decide +kernel) (by decide +kernel)
def Y_L_law : MD := (yL_law, cL_law, 4, ret, 2048, 84000, 600000, 7302250)
theorem oi_i : Cond.instanceMethod Lib.objectInit ∈ gT := gT_mem (i := 81) (by decide +kernel) (by decide +kernel)
theorem oi_c : Cond.code Lib.objectInit ⟨#[0xb1]⟩ 1 none ∈ gT := gT_mem (i := 82) (by decide +kernel) (by decide +kernel)
theorem ma_max_s : Cond.static Lib.Math.max.name ∈ gT := gT_mem (i := 189) (by decide +kernel) (by decide +kernel)
theorem ma_max_c : Cond.code Lib.Math.max.name Lib.Math.max.code 2 (some .int) ∈ gT := gT_mem (i := 190) (by decide +kernel) (by decide +kernel)
theorem ma_min_s : Cond.static Lib.Math.min.name ∈ gT := gT_mem (i := 436) (by decide +kernel) (by decide +kernel)
theorem ma_min_c : Cond.code Lib.Math.min.name Lib.Math.min.code 2 (some .int) ∈ gT := gT_mem (i := 437) (by decide +kernel) (by decide +kernel)
theorem ma_i : Cond.initialized "java/lang/Math" ∈ gT := gT_mem (i := 68) (by decide +kernel) (by decide +kernel)
theorem ar_int : Cond.arrayClass (newarray.typeOf .int) ∈ gT := gT_mem (i := 98) (by decide +kernel) (by decide +kernel)
theorem ar_boolean : Cond.arrayClass (newarray.typeOf .boolean) ∈ gT := gT_mem (i := 914) (by decide +kernel) (by decide +kernel)
theorem co_265 : Cond.constant RJ6 265 (I 1431655765) ∈ gT := gT_mem (i := 716) (by decide +kernel) (by decide +kernel)
theorem co_266 : Cond.constant RJ6 266 (I 858993459) ∈ gT := gT_mem (i := 717) (by decide +kernel) (by decide +kernel)
theorem co_267 : Cond.constant RJ6 267 (I 252645135) ∈ gT := gT_mem (i := 718) (by decide +kernel) (by decide +kernel)
theorem ab_0 : Cond.instantiable RX0 9 ∈ gT := gT_mem (i := 248) (by decide +kernel) (by decide +kernel)
theorem in_0 : Cond.initialized RX0 ∈ gT := gT_mem (i := 71) (by decide +kernel) (by decide +kernel)
theorem ab_1 : Cond.instantiable RX1 6 ∈ gT := gT_mem (i := 112) (by decide +kernel) (by decide +kernel)
theorem in_1 : Cond.initialized RX1 ∈ gT := gT_mem (i := 65) (by decide +kernel) (by decide +kernel)
theorem ab_2 : Cond.instantiable RX2 4 ∈ gT := gT_mem (i := 316) (by decide +kernel) (by decide +kernel)
theorem in_2 : Cond.initialized RX2 ∈ gT := gT_mem (i := 72) (by decide +kernel) (by decide +kernel)
theorem ab_3 : Cond.instantiable RX3 4 ∈ gT := gT_mem (i := 106) (by decide +kernel) (by decide +kernel)
theorem in_3 : Cond.initialized RX3 ∈ gT := gT_mem (i := 64) (by decide +kernel) (by decide +kernel)
theorem ab_4 : Cond.instantiable RX4 4 ∈ gT := gT_mem (i := 100) (by decide +kernel) (by decide +kernel)
theorem in_4 : Cond.initialized RX4 ∈ gT := gT_mem (i := 63) (by decide +kernel) (by decide +kernel)
theorem ab_5 : Cond.instantiable RX5 1 ∈ gT := gT_mem (i := 232) (by decide +kernel) (by decide +kernel)
theorem in_5 : Cond.initialized RX5 ∈ gT := gT_mem (i := 69) (by decide +kernel) (by decide +kernel)
theorem ab_6 : Cond.instantiable RX6 8 ∈ gT := gT_mem (i := 177) (by decide +kernel) (by decide +kernel)
theorem in_6 : Cond.initialized RX6 ∈ gT := gT_mem (i := 66) (by decide +kernel) (by decide +kernel)
theorem ab_7 : Cond.instantiable RX7 5 ∈ gT := gT_mem (i := 242) (by decide +kernel) (by decide +kernel)
theorem in_7 : Cond.initialized RX7 ∈ gT := gT_mem (i := 70) (by decide +kernel) (by decide +kernel)
theorem ab_8 : Cond.instantiable RX8 3 ∈ gT := gT_mem (i := 183) (by decide +kernel) (by decide +kernel)
theorem in_8 : Cond.initialized RX8 ∈ gT := gT_mem (i := 67) (by decide +kernel) (by decide +kernel)
theorem ab_9 : Cond.instantiable RX9 2 ∈ gT := gT_mem (i := 84) (by decide +kernel) (by decide +kernel)
theorem in_9 : Cond.initialized RX9 ∈ gT := gT_mem (i := 62) (by decide +kernel) (by decide +kernel)
theorem ab_10 : Cond.instantiable RX10 12 ∈ gT := gT_mem (i := 76) (by decide +kernel) (by decide +kernel)
theorem in_10 : Cond.initialized RX10 ∈ gT := gT_mem (i := 61) (by decide +kernel) (by decide +kernel)
theorem ab_11 : Cond.instantiable RX11 28 ∈ gT := gT_mem (i := 816) (by decide +kernel) (by decide +kernel)
theorem in_11 : Cond.initialized RX11 ∈ gT := gT_mem (i := 73) (by decide +kernel) (by decide +kernel)
theorem lf_X10_12 : Cond.fieldLink RX10 12 RX10 "text" "LContactWays$Text;" ∈ gT := gT_mem (i := 340) (by decide +kernel) (by decide +kernel)
theorem g_X10_12 {G : GT} {Y : MD} {Z : ZT} {c0 s0 n pc : Nat} {μ : Mem} {L : List (Nat × AV)} {st : List AV} {a : Int} (hY : Y.1.cls = RX10) (hd : decode Y.2.1 pc = .ok (.getfield 12, 3)) (ho : gx G n μ → 0 ≤ a ∧ a < n ∧ SH a = (10, 12)) (w : Wa G Y Z c0 s0 n μ (pc + 3) L (.inr (μ a 0) :: st)) : Wa G Y Z c0 s0 n μ pc L (.inr a :: st) :=
  a_getf (k := 0) cf_10 hd (by decide) rfl (by rw [hY]; exact lf_X10_12) ho (fun _ => w)
theorem gs_X10_12 {G : GT} {Y : MD} {Z : ZT} {c0 s0 n pc : Nat} {μ : Mem} {L : List (Nat × AV)} {st : List AV} {a : Int} (hY : Y.1.cls = RX10) (hd : decode Y.2.1 pc = .ok (.getfield 12, 3)) (hg : gx G = FX) (hs : St a 10 12) (w : Wa G Y Z c0 s0 n μ (pc + 3) L (.inr (1) :: st)) : Wa G Y Z c0 s0 n μ pc L (.inr a :: st) :=
  a_fx (fun f => g_X10_12 hY hd (St_ho hg hs) (by rw [hg] at f; rw [fx_10_0 f hs]; exact w))
theorem p_X10_12 {G : GT} {Y : MD} {Z : ZT} {c0 s0 n pc : Nat} {μ : Mem} {L : List (Nat × AV)} {st : List AV} {a v : Int} (hY : Y.1.cls = RX10) (hi : Y.1.name = "<init>") (hd : decode Y.2.1 pc = .ok (.putfield 12, 3)) (ho : gx G n μ → 0 ≤ a ∧ a < n ∧ SH a = (10, 12)) (hx : gx G n μ → gx G n (up μ a 0 v)) (w : Wa G Y Z c0 s0 n (up μ a 0 v) (pc + 3) L st) : Wa G Y Z c0 s0 n μ pc L (.inr v :: .inr a :: st) :=
  a_putF (k := 0) cf_10 hd (by decide) rfl hY.symm hi rfl (sm_10 0 (by decide)) (by rw [hY]; exact lf_X10_12) ho (fun _ => trivial) hx w
theorem lf_X10_21 : Cond.fieldLink RX10 21 RX10 "reader" "LContactWays$PlanReader;" ∈ gT := gT_mem (i := 341) (by decide +kernel) (by decide +kernel)
theorem g_X10_21 {G : GT} {Y : MD} {Z : ZT} {c0 s0 n pc : Nat} {μ : Mem} {L : List (Nat × AV)} {st : List AV} {a : Int} (hY : Y.1.cls = RX10) (hd : decode Y.2.1 pc = .ok (.getfield 21, 3)) (ho : gx G n μ → 0 ≤ a ∧ a < n ∧ SH a = (10, 12)) (w : Wa G Y Z c0 s0 n μ (pc + 3) L (.inr (μ a 1) :: st)) : Wa G Y Z c0 s0 n μ pc L (.inr a :: st) :=
  a_getf (k := 1) cf_10 hd (by decide) rfl (by rw [hY]; exact lf_X10_21) ho (fun _ => w)
theorem gs_X10_21 {G : GT} {Y : MD} {Z : ZT} {c0 s0 n pc : Nat} {μ : Mem} {L : List (Nat × AV)} {st : List AV} {a : Int} (hY : Y.1.cls = RX10) (hd : decode Y.2.1 pc = .ok (.getfield 21, 3)) (hg : gx G = FX) (hs : St a 10 12) (w : Wa G Y Z c0 s0 n μ (pc + 3) L (.inr (3) :: st)) : Wa G Y Z c0 s0 n μ pc L (.inr a :: st) :=
  a_fx (fun f => g_X10_21 hY hd (St_ho hg hs) (by rw [hg] at f; rw [fx_10_1 f hs]; exact w))
theorem p_X10_21 {G : GT} {Y : MD} {Z : ZT} {c0 s0 n pc : Nat} {μ : Mem} {L : List (Nat × AV)} {st : List AV} {a v : Int} (hY : Y.1.cls = RX10) (hi : Y.1.name = "<init>") (hd : decode Y.2.1 pc = .ok (.putfield 21, 3)) (ho : gx G n μ → 0 ≤ a ∧ a < n ∧ SH a = (10, 12)) (hx : gx G n μ → gx G n (up μ a 1 v)) (w : Wa G Y Z c0 s0 n (up μ a 1 v) (pc + 3) L st) : Wa G Y Z c0 s0 n μ pc L (.inr v :: .inr a :: st) :=
  a_putF (k := 1) cf_10 hd (by decide) rfl hY.symm hi rfl (sm_10 1 (by decide)) (by rw [hY]; exact lf_X10_21) ho (fun _ => trivial) hx w
theorem lf_X10_28 : Cond.fieldLink RX10 28 RX10 "network" "LContactWays$Network;" ∈ gT := gT_mem (i := 342) (by decide +kernel) (by decide +kernel)
theorem g_X10_28 {G : GT} {Y : MD} {Z : ZT} {c0 s0 n pc : Nat} {μ : Mem} {L : List (Nat × AV)} {st : List AV} {a : Int} (hY : Y.1.cls = RX10) (hd : decode Y.2.1 pc = .ok (.getfield 28, 3)) (ho : gx G n μ → 0 ≤ a ∧ a < n ∧ SH a = (10, 12)) (w : Wa G Y Z c0 s0 n μ (pc + 3) L (.inr (μ a 2) :: st)) : Wa G Y Z c0 s0 n μ pc L (.inr a :: st) :=
  a_getf (k := 2) cf_10 hd (by decide) rfl (by rw [hY]; exact lf_X10_28) ho (fun _ => w)
theorem gs_X10_28 {G : GT} {Y : MD} {Z : ZT} {c0 s0 n pc : Nat} {μ : Mem} {L : List (Nat × AV)} {st : List AV} {a : Int} (hY : Y.1.cls = RX10) (hd : decode Y.2.1 pc = .ok (.getfield 28, 3)) (hg : gx G = FX) (hs : St a 10 12) (w : Wa G Y Z c0 s0 n μ (pc + 3) L (.inr (7) :: st)) : Wa G Y Z c0 s0 n μ pc L (.inr a :: st) :=
  a_fx (fun f => g_X10_28 hY hd (St_ho hg hs) (by rw [hg] at f; rw [fx_10_2 f hs]; exact w))
theorem p_X10_28 {G : GT} {Y : MD} {Z : ZT} {c0 s0 n pc : Nat} {μ : Mem} {L : List (Nat × AV)} {st : List AV} {a v : Int} (hY : Y.1.cls = RX10) (hi : Y.1.name = "<init>") (hd : decode Y.2.1 pc = .ok (.putfield 28, 3)) (ho : gx G n μ → 0 ≤ a ∧ a < n ∧ SH a = (10, 12)) (hx : gx G n μ → gx G n (up μ a 2 v)) (w : Wa G Y Z c0 s0 n (up μ a 2 v) (pc + 3) L st) : Wa G Y Z c0 s0 n μ pc L (.inr v :: .inr a :: st) :=
  a_putF (k := 2) cf_10 hd (by decide) rfl hY.symm hi rfl (sm_10 2 (by decide)) (by rw [hY]; exact lf_X10_28) ho (fun _ => trivial) hx w
theorem lf_X10_37 : Cond.fieldLink RX10 37 RX10 "router" "LContactWays$Router;" ∈ gT := gT_mem (i := 343) (by decide +kernel) (by decide +kernel)
theorem g_X10_37 {G : GT} {Y : MD} {Z : ZT} {c0 s0 n pc : Nat} {μ : Mem} {L : List (Nat × AV)} {st : List AV} {a : Int} (hY : Y.1.cls = RX10) (hd : decode Y.2.1 pc = .ok (.getfield 37, 3)) (ho : gx G n μ → 0 ≤ a ∧ a < n ∧ SH a = (10, 12)) (w : Wa G Y Z c0 s0 n μ (pc + 3) L (.inr (μ a 3) :: st)) : Wa G Y Z c0 s0 n μ pc L (.inr a :: st) :=
  a_getf (k := 3) cf_10 hd (by decide) rfl (by rw [hY]; exact lf_X10_37) ho (fun _ => w)
theorem gs_X10_37 {G : GT} {Y : MD} {Z : ZT} {c0 s0 n pc : Nat} {μ : Mem} {L : List (Nat × AV)} {st : List AV} {a : Int} (hY : Y.1.cls = RX10) (hd : decode Y.2.1 pc = .ok (.getfield 37, 3)) (hg : gx G = FX) (hs : St a 10 12) (w : Wa G Y Z c0 s0 n μ (pc + 3) L (.inr (10) :: st)) : Wa G Y Z c0 s0 n μ pc L (.inr a :: st) :=
  a_fx (fun f => g_X10_37 hY hd (St_ho hg hs) (by rw [hg] at f; rw [fx_10_3 f hs]; exact w))
theorem p_X10_37 {G : GT} {Y : MD} {Z : ZT} {c0 s0 n pc : Nat} {μ : Mem} {L : List (Nat × AV)} {st : List AV} {a v : Int} (hY : Y.1.cls = RX10) (hi : Y.1.name = "<init>") (hd : decode Y.2.1 pc = .ok (.putfield 37, 3)) (ho : gx G n μ → 0 ≤ a ∧ a < n ∧ SH a = (10, 12)) (hx : gx G n μ → gx G n (up μ a 3 v)) (w : Wa G Y Z c0 s0 n (up μ a 3 v) (pc + 3) L st) : Wa G Y Z c0 s0 n μ pc L (.inr v :: .inr a :: st) :=
  a_putF (k := 3) cf_10 hd (by decide) rfl hY.symm hi rfl (sm_10 3 (by decide)) (by rw [hY]; exact lf_X10_37) ho (fun _ => trivial) hx w
theorem lf_X10_46 : Cond.fieldLink RX10 46 RX10 "planner" "LContactWays$Planner;" ∈ gT := gT_mem (i := 344) (by decide +kernel) (by decide +kernel)
theorem g_X10_46 {G : GT} {Y : MD} {Z : ZT} {c0 s0 n pc : Nat} {μ : Mem} {L : List (Nat × AV)} {st : List AV} {a : Int} (hY : Y.1.cls = RX10) (hd : decode Y.2.1 pc = .ok (.getfield 46, 3)) (ho : gx G n μ → 0 ≤ a ∧ a < n ∧ SH a = (10, 12)) (w : Wa G Y Z c0 s0 n μ (pc + 3) L (.inr (μ a 4) :: st)) : Wa G Y Z c0 s0 n μ pc L (.inr a :: st) :=
  a_getf (k := 4) cf_10 hd (by decide) rfl (by rw [hY]; exact lf_X10_46) ho (fun _ => w)
theorem gs_X10_46 {G : GT} {Y : MD} {Z : ZT} {c0 s0 n pc : Nat} {μ : Mem} {L : List (Nat × AV)} {st : List AV} {a : Int} (hY : Y.1.cls = RX10) (hd : decode Y.2.1 pc = .ok (.getfield 46, 3)) (hg : gx G = FX) (hs : St a 10 12) (w : Wa G Y Z c0 s0 n μ (pc + 3) L (.inr (17) :: st)) : Wa G Y Z c0 s0 n μ pc L (.inr a :: st) :=
  a_fx (fun f => g_X10_46 hY hd (St_ho hg hs) (by rw [hg] at f; rw [fx_10_4 f hs]; exact w))
theorem p_X10_46 {G : GT} {Y : MD} {Z : ZT} {c0 s0 n pc : Nat} {μ : Mem} {L : List (Nat × AV)} {st : List AV} {a v : Int} (hY : Y.1.cls = RX10) (hi : Y.1.name = "<init>") (hd : decode Y.2.1 pc = .ok (.putfield 46, 3)) (ho : gx G n μ → 0 ≤ a ∧ a < n ∧ SH a = (10, 12)) (hx : gx G n μ → gx G n (up μ a 4 v)) (w : Wa G Y Z c0 s0 n (up μ a 4 v) (pc + 3) L st) : Wa G Y Z c0 s0 n μ pc L (.inr v :: .inr a :: st) :=
  a_putF (k := 4) cf_10 hd (by decide) rfl hY.symm hi rfl (sm_10 4 (by decide)) (by rw [hY]; exact lf_X10_46) ho (fun _ => trivial) hx w
theorem lf_X10_53 : Cond.fieldLink RX10 53 RX10 "present" "LContactWays$Situation;" ∈ gT := gT_mem (i := 345) (by decide +kernel) (by decide +kernel)
theorem g_X10_53 {G : GT} {Y : MD} {Z : ZT} {c0 s0 n pc : Nat} {μ : Mem} {L : List (Nat × AV)} {st : List AV} {a : Int} (hY : Y.1.cls = RX10) (hd : decode Y.2.1 pc = .ok (.getfield 53, 3)) (ho : gx G n μ → 0 ≤ a ∧ a < n ∧ SH a = (10, 12)) (w : Wa G Y Z c0 s0 n μ (pc + 3) L (.inr (μ a 5) :: st)) : Wa G Y Z c0 s0 n μ pc L (.inr a :: st) :=
  a_getf (k := 5) cf_10 hd (by decide) rfl (by rw [hY]; exact lf_X10_53) ho (fun _ => w)
theorem gs_X10_53 {G : GT} {Y : MD} {Z : ZT} {c0 s0 n pc : Nat} {μ : Mem} {L : List (Nat × AV)} {st : List AV} {a : Int} (hY : Y.1.cls = RX10) (hd : decode Y.2.1 pc = .ok (.getfield 53, 3)) (hg : gx G = FX) (hs : St a 10 12) (w : Wa G Y Z c0 s0 n μ (pc + 3) L (.inr (18) :: st)) : Wa G Y Z c0 s0 n μ pc L (.inr a :: st) :=
  a_fx (fun f => g_X10_53 hY hd (St_ho hg hs) (by rw [hg] at f; rw [fx_10_5 f hs]; exact w))
theorem p_X10_53 {G : GT} {Y : MD} {Z : ZT} {c0 s0 n pc : Nat} {μ : Mem} {L : List (Nat × AV)} {st : List AV} {a v : Int} (hY : Y.1.cls = RX10) (hi : Y.1.name = "<init>") (hd : decode Y.2.1 pc = .ok (.putfield 53, 3)) (ho : gx G n μ → 0 ≤ a ∧ a < n ∧ SH a = (10, 12)) (hx : gx G n μ → gx G n (up μ a 5 v)) (w : Wa G Y Z c0 s0 n (up μ a 5 v) (pc + 3) L st) : Wa G Y Z c0 s0 n μ pc L (.inr v :: .inr a :: st) :=
  a_putF (k := 5) cf_10 hd (by decide) rfl hY.symm hi rfl (sm_10 5 (by decide)) (by rw [hY]; exact lf_X10_53) ho (fun _ => trivial) hx w
theorem lf_X10_57 : Cond.fieldLink RX10 57 RX10 "trial" "LContactWays$Situation;" ∈ gT := gT_mem (i := 346) (by decide +kernel) (by decide +kernel)
theorem g_X10_57 {G : GT} {Y : MD} {Z : ZT} {c0 s0 n pc : Nat} {μ : Mem} {L : List (Nat × AV)} {st : List AV} {a : Int} (hY : Y.1.cls = RX10) (hd : decode Y.2.1 pc = .ok (.getfield 57, 3)) (ho : gx G n μ → 0 ≤ a ∧ a < n ∧ SH a = (10, 12)) (w : Wa G Y Z c0 s0 n μ (pc + 3) L (.inr (μ a 6) :: st)) : Wa G Y Z c0 s0 n μ pc L (.inr a :: st) :=
  a_getf (k := 6) cf_10 hd (by decide) rfl (by rw [hY]; exact lf_X10_57) ho (fun _ => w)
theorem gs_X10_57 {G : GT} {Y : MD} {Z : ZT} {c0 s0 n pc : Nat} {μ : Mem} {L : List (Nat × AV)} {st : List AV} {a : Int} (hY : Y.1.cls = RX10) (hd : decode Y.2.1 pc = .ok (.getfield 57, 3)) (hg : gx G = FX) (hs : St a 10 12) (w : Wa G Y Z c0 s0 n μ (pc + 3) L (.inr (47) :: st)) : Wa G Y Z c0 s0 n μ pc L (.inr a :: st) :=
  a_fx (fun f => g_X10_57 hY hd (St_ho hg hs) (by rw [hg] at f; rw [fx_10_6 f hs]; exact w))
theorem p_X10_57 {G : GT} {Y : MD} {Z : ZT} {c0 s0 n pc : Nat} {μ : Mem} {L : List (Nat × AV)} {st : List AV} {a v : Int} (hY : Y.1.cls = RX10) (hi : Y.1.name = "<init>") (hd : decode Y.2.1 pc = .ok (.putfield 57, 3)) (ho : gx G n μ → 0 ≤ a ∧ a < n ∧ SH a = (10, 12)) (hx : gx G n μ → gx G n (up μ a 6 v)) (w : Wa G Y Z c0 s0 n (up μ a 6 v) (pc + 3) L st) : Wa G Y Z c0 s0 n μ pc L (.inr v :: .inr a :: st) :=
  a_putF (k := 6) cf_10 hd (by decide) rfl hY.symm hi rfl (sm_10 6 (by decide)) (by rw [hY]; exact lf_X10_57) ho (fun _ => trivial) hx w
theorem lf_X10_63 : Cond.fieldLink RX10 63 RX10 "history" "LContactWays$History;" ∈ gT := gT_mem (i := 347) (by decide +kernel) (by decide +kernel)
theorem g_X10_63 {G : GT} {Y : MD} {Z : ZT} {c0 s0 n pc : Nat} {μ : Mem} {L : List (Nat × AV)} {st : List AV} {a : Int} (hY : Y.1.cls = RX10) (hd : decode Y.2.1 pc = .ok (.getfield 63, 3)) (ho : gx G n μ → 0 ≤ a ∧ a < n ∧ SH a = (10, 12)) (w : Wa G Y Z c0 s0 n μ (pc + 3) L (.inr (μ a 7) :: st)) : Wa G Y Z c0 s0 n μ pc L (.inr a :: st) :=
  a_getf (k := 7) cf_10 hd (by decide) rfl (by rw [hY]; exact lf_X10_63) ho (fun _ => w)
theorem gs_X10_63 {G : GT} {Y : MD} {Z : ZT} {c0 s0 n pc : Nat} {μ : Mem} {L : List (Nat × AV)} {st : List AV} {a : Int} (hY : Y.1.cls = RX10) (hd : decode Y.2.1 pc = .ok (.getfield 63, 3)) (hg : gx G = FX) (hs : St a 10 12) (w : Wa G Y Z c0 s0 n μ (pc + 3) L (.inr (76) :: st)) : Wa G Y Z c0 s0 n μ pc L (.inr a :: st) :=
  a_fx (fun f => g_X10_63 hY hd (St_ho hg hs) (by rw [hg] at f; rw [fx_10_7 f hs]; exact w))
theorem p_X10_63 {G : GT} {Y : MD} {Z : ZT} {c0 s0 n pc : Nat} {μ : Mem} {L : List (Nat × AV)} {st : List AV} {a v : Int} (hY : Y.1.cls = RX10) (hi : Y.1.name = "<init>") (hd : decode Y.2.1 pc = .ok (.putfield 63, 3)) (ho : gx G n μ → 0 ≤ a ∧ a < n ∧ SH a = (10, 12)) (hx : gx G n μ → gx G n (up μ a 7 v)) (w : Wa G Y Z c0 s0 n (up μ a 7 v) (pc + 3) L st) : Wa G Y Z c0 s0 n μ pc L (.inr v :: .inr a :: st) :=
  a_putF (k := 7) cf_10 hd (by decide) rfl hY.symm hi rfl (sm_10 7 (by decide)) (by rw [hY]; exact lf_X10_63) ho (fun _ => trivial) hx w
theorem lf_X10_67 : Cond.fieldLink RX10 67 RX10 "firstImage" "LContactWays$Situation;" ∈ gT := gT_mem (i := 348) (by decide +kernel) (by decide +kernel)
theorem g_X10_67 {G : GT} {Y : MD} {Z : ZT} {c0 s0 n pc : Nat} {μ : Mem} {L : List (Nat × AV)} {st : List AV} {a : Int} (hY : Y.1.cls = RX10) (hd : decode Y.2.1 pc = .ok (.getfield 67, 3)) (ho : gx G n μ → 0 ≤ a ∧ a < n ∧ SH a = (10, 12)) (w : Wa G Y Z c0 s0 n μ (pc + 3) L (.inr (μ a 8) :: st)) : Wa G Y Z c0 s0 n μ pc L (.inr a :: st) :=
  a_getf (k := 8) cf_10 hd (by decide) rfl (by rw [hY]; exact lf_X10_67) ho (fun _ => w)
theorem gs_X10_67 {G : GT} {Y : MD} {Z : ZT} {c0 s0 n pc : Nat} {μ : Mem} {L : List (Nat × AV)} {st : List AV} {a : Int} (hY : Y.1.cls = RX10) (hd : decode Y.2.1 pc = .ok (.getfield 67, 3)) (hg : gx G = FX) (hs : St a 10 12) (w : Wa G Y Z c0 s0 n μ (pc + 3) L (.inr (339) :: st)) : Wa G Y Z c0 s0 n μ pc L (.inr a :: st) :=
  a_fx (fun f => g_X10_67 hY hd (St_ho hg hs) (by rw [hg] at f; rw [fx_10_8 f hs]; exact w))
theorem p_X10_67 {G : GT} {Y : MD} {Z : ZT} {c0 s0 n pc : Nat} {μ : Mem} {L : List (Nat × AV)} {st : List AV} {a v : Int} (hY : Y.1.cls = RX10) (hi : Y.1.name = "<init>") (hd : decode Y.2.1 pc = .ok (.putfield 67, 3)) (ho : gx G n μ → 0 ≤ a ∧ a < n ∧ SH a = (10, 12)) (hx : gx G n μ → gx G n (up μ a 8 v)) (w : Wa G Y Z c0 s0 n (up μ a 8 v) (pc + 3) L st) : Wa G Y Z c0 s0 n μ pc L (.inr v :: .inr a :: st) :=
  a_putF (k := 8) cf_10 hd (by decide) rfl hY.symm hi rfl (sm_10 8 (by decide)) (by rw [hY]; exact lf_X10_67) ho (fun _ => trivial) hx w
theorem lf_X10_70 : Cond.fieldLink RX10 70 RX10 "secondImage" "LContactWays$Situation;" ∈ gT := gT_mem (i := 349) (by decide +kernel) (by decide +kernel)
theorem g_X10_70 {G : GT} {Y : MD} {Z : ZT} {c0 s0 n pc : Nat} {μ : Mem} {L : List (Nat × AV)} {st : List AV} {a : Int} (hY : Y.1.cls = RX10) (hd : decode Y.2.1 pc = .ok (.getfield 70, 3)) (ho : gx G n μ → 0 ≤ a ∧ a < n ∧ SH a = (10, 12)) (w : Wa G Y Z c0 s0 n μ (pc + 3) L (.inr (μ a 9) :: st)) : Wa G Y Z c0 s0 n μ pc L (.inr a :: st) :=
  a_getf (k := 9) cf_10 hd (by decide) rfl (by rw [hY]; exact lf_X10_70) ho (fun _ => w)
theorem gs_X10_70 {G : GT} {Y : MD} {Z : ZT} {c0 s0 n pc : Nat} {μ : Mem} {L : List (Nat × AV)} {st : List AV} {a : Int} (hY : Y.1.cls = RX10) (hd : decode Y.2.1 pc = .ok (.getfield 70, 3)) (hg : gx G = FX) (hs : St a 10 12) (w : Wa G Y Z c0 s0 n μ (pc + 3) L (.inr (368) :: st)) : Wa G Y Z c0 s0 n μ pc L (.inr a :: st) :=
  a_fx (fun f => g_X10_70 hY hd (St_ho hg hs) (by rw [hg] at f; rw [fx_10_9 f hs]; exact w))
theorem p_X10_70 {G : GT} {Y : MD} {Z : ZT} {c0 s0 n pc : Nat} {μ : Mem} {L : List (Nat × AV)} {st : List AV} {a v : Int} (hY : Y.1.cls = RX10) (hi : Y.1.name = "<init>") (hd : decode Y.2.1 pc = .ok (.putfield 70, 3)) (ho : gx G n μ → 0 ≤ a ∧ a < n ∧ SH a = (10, 12)) (hx : gx G n μ → gx G n (up μ a 9 v)) (w : Wa G Y Z c0 s0 n (up μ a 9 v) (pc + 3) L st) : Wa G Y Z c0 s0 n μ pc L (.inr v :: .inr a :: st) :=
  a_putF (k := 9) cf_10 hd (by decide) rfl hY.symm hi rfl (sm_10 9 (by decide)) (by rw [hY]; exact lf_X10_70) ho (fun _ => trivial) hx w
theorem lf_X10_78 : Cond.fieldLink RX10 78 RX10 "observations" "LContactWays$Table;" ∈ gT := gT_mem (i := 350) (by decide +kernel) (by decide +kernel)
theorem g_X10_78 {G : GT} {Y : MD} {Z : ZT} {c0 s0 n pc : Nat} {μ : Mem} {L : List (Nat × AV)} {st : List AV} {a : Int} (hY : Y.1.cls = RX10) (hd : decode Y.2.1 pc = .ok (.getfield 78, 3)) (ho : gx G n μ → 0 ≤ a ∧ a < n ∧ SH a = (10, 12)) (w : Wa G Y Z c0 s0 n μ (pc + 3) L (.inr (μ a 10) :: st)) : Wa G Y Z c0 s0 n μ pc L (.inr a :: st) :=
  a_getf (k := 10) cf_10 hd (by decide) rfl (by rw [hY]; exact lf_X10_78) ho (fun _ => w)
theorem gs_X10_78 {G : GT} {Y : MD} {Z : ZT} {c0 s0 n pc : Nat} {μ : Mem} {L : List (Nat × AV)} {st : List AV} {a : Int} (hY : Y.1.cls = RX10) (hd : decode Y.2.1 pc = .ok (.getfield 78, 3)) (hg : gx G = FX) (hs : St a 10 12) (w : Wa G Y Z c0 s0 n μ (pc + 3) L (.inr (397) :: st)) : Wa G Y Z c0 s0 n μ pc L (.inr a :: st) :=
  a_fx (fun f => g_X10_78 hY hd (St_ho hg hs) (by rw [hg] at f; rw [fx_10_10 f hs]; exact w))
theorem p_X10_78 {G : GT} {Y : MD} {Z : ZT} {c0 s0 n pc : Nat} {μ : Mem} {L : List (Nat × AV)} {st : List AV} {a v : Int} (hY : Y.1.cls = RX10) (hi : Y.1.name = "<init>") (hd : decode Y.2.1 pc = .ok (.putfield 78, 3)) (ho : gx G n μ → 0 ≤ a ∧ a < n ∧ SH a = (10, 12)) (hx : gx G n μ → gx G n (up μ a 10 v)) (w : Wa G Y Z c0 s0 n (up μ a 10 v) (pc + 3) L st) : Wa G Y Z c0 s0 n μ pc L (.inr v :: .inr a :: st) :=
  a_putF (k := 10) cf_10 hd (by decide) rfl hY.symm hi rfl (sm_10 10 (by decide)) (by rw [hY]; exact lf_X10_78) ho (fun _ => trivial) hx w
theorem lf_X10_82 : Cond.fieldLink RX10 82 RX10 "savedImages" "I" ∈ gT := gT_mem (i := 351) (by decide +kernel) (by decide +kernel)
theorem g_X10_82 {G : GT} {Y : MD} {Z : ZT} {c0 s0 n pc : Nat} {μ : Mem} {L : List (Nat × AV)} {st : List AV} {a : Int} (hY : Y.1.cls = RX10) (hd : decode Y.2.1 pc = .ok (.getfield 82, 3)) (ho : gx G n μ → 0 ≤ a ∧ a < n ∧ SH a = (10, 12)) (w : Wa G Y Z c0 s0 n μ (pc + 3) L (.inl (μ a 11) :: st)) : Wa G Y Z c0 s0 n μ pc L (.inr a :: st) :=
  a_getf (k := 11) cf_10 hd (by decide) rfl (by rw [hY]; exact lf_X10_82) ho (fun _ => w)
theorem p_X10_82 {G : GT} {Y : MD} {Z : ZT} {c0 s0 n pc : Nat} {μ : Mem} {L : List (Nat × AV)} {st : List AV} {a v : Int} (hY : Y.1.cls = RX10) (hd : decode Y.2.1 pc = .ok (.putfield 82, 3)) (ho : gx G n μ → 0 ≤ a ∧ a < n ∧ SH a = (10, 12)) (hx : gx G n μ → gx G n (up μ a 11 v)) (w : Wa G Y Z c0 s0 n (up μ a 11 v) (pc + 3) L st) : Wa G Y Z c0 s0 n μ pc L (.inl v :: .inr a :: st) :=
  a_putf (k := 11) cf_10 hd (by decide) rfl rfl (sm_10 11 (by decide)) (by rw [hY]; exact lf_X10_82) ho (fun h => h) hx w
theorem lf_X10_98 : Cond.fieldLinkNest RX10 98 RX9 "length" "I" "ContactWays" ∈ gN := gN_mem (i := 91) (by decide +kernel) (by decide +kernel)
theorem g_X10_98 {G : GT} {Y : MD} {Z : ZT} {c0 s0 n pc : Nat} {μ : Mem} {L : List (Nat × AV)} {st : List AV} {a : Int} (hY : Y.1.cls = RX10) (hd : decode Y.2.1 pc = .ok (.getfield 98, 3)) (ho : gx G n μ → 0 ≤ a ∧ a < n ∧ SH a = (9, 2)) (w : Wa G Y Z c0 s0 n μ (pc + 3) L (.inl (μ a 1) :: st)) : Wa G Y Z c0 s0 n μ pc L (.inr a :: st) :=
  a_getfN (k := 1) cf_9 hd (by decide) rfl (by rw [hY]; exact lf_X10_98) ho (fun _ => w)
theorem lf_X10_108 : Cond.fieldLinkNest RX10 108 RX4 "draft" "LContactWays$Network;" "ContactWays" ∈ gN := gN_mem (i := 162) (by decide +kernel) (by decide +kernel)
theorem g_X10_108 {G : GT} {Y : MD} {Z : ZT} {c0 s0 n pc : Nat} {μ : Mem} {L : List (Nat × AV)} {st : List AV} {a : Int} (hY : Y.1.cls = RX10) (hd : decode Y.2.1 pc = .ok (.getfield 108, 3)) (ho : gx G n μ → 0 ≤ a ∧ a < n ∧ SH a = (4, 4)) (w : Wa G Y Z c0 s0 n μ (pc + 3) L (.inr (μ a 1) :: st)) : Wa G Y Z c0 s0 n μ pc L (.inr a :: st) :=
  a_getfN (k := 1) cf_4 hd (by decide) rfl (by rw [hY]; exact lf_X10_108) ho (fun _ => w)
theorem gs_X10_108 {G : GT} {Y : MD} {Z : ZT} {c0 s0 n pc : Nat} {μ : Mem} {L : List (Nat × AV)} {st : List AV} {a : Int} (hY : Y.1.cls = RX10) (hd : decode Y.2.1 pc = .ok (.getfield 108, 3)) (hg : gx G = FX) (hs : St a 4 4) (w : Wa G Y Z c0 s0 n μ (pc + 3) L (.inr (4) :: st)) : Wa G Y Z c0 s0 n μ pc L (.inr a :: st) :=
  a_fx (fun f => g_X10_108 hY hd (St_ho hg hs) (by rw [hg] at f; rw [fx_4_1 f hs]; exact w))
theorem lf_X10_144 : Cond.fieldLinkNest RX10 144 RX7 "bundleCount" "I" "ContactWays" ∈ gN := gN_mem (i := 298) (by decide +kernel) (by decide +kernel)
theorem g_X10_144 {G : GT} {Y : MD} {Z : ZT} {c0 s0 n pc : Nat} {μ : Mem} {L : List (Nat × AV)} {st : List AV} {a : Int} (hY : Y.1.cls = RX10) (hd : decode Y.2.1 pc = .ok (.getfield 144, 3)) (ho : gx G n μ → 0 ≤ a ∧ a < n ∧ SH a = (7, 5)) (w : Wa G Y Z c0 s0 n μ (pc + 3) L (.inl (μ a 2) :: st)) : Wa G Y Z c0 s0 n μ pc L (.inr a :: st) :=
  a_getfN (k := 2) cf_7 hd (by decide) rfl (by rw [hY]; exact lf_X10_144) ho (fun _ => w)
theorem lf_X10_177 : Cond.fieldLinkNest RX10 177 RX7 "now" "I" "ContactWays" ∈ gN := gN_mem (i := 302) (by decide +kernel) (by decide +kernel)
theorem g_X10_177 {G : GT} {Y : MD} {Z : ZT} {c0 s0 n pc : Nat} {μ : Mem} {L : List (Nat × AV)} {st : List AV} {a : Int} (hY : Y.1.cls = RX10) (hd : decode Y.2.1 pc = .ok (.getfield 177, 3)) (ho : gx G n μ → 0 ≤ a ∧ a < n ∧ SH a = (7, 5)) (w : Wa G Y Z c0 s0 n μ (pc + 3) L (.inl (μ a 3) :: st)) : Wa G Y Z c0 s0 n μ pc L (.inr a :: st) :=
  a_getfN (k := 3) cf_7 hd (by decide) rfl (by rw [hY]; exact lf_X10_177) ho (fun _ => w)
theorem lf_X10_195 : Cond.fieldLinkNest RX10 195 RX2 "kept" "I" "ContactWays" ∈ gN := gN_mem (i := 328) (by decide +kernel) (by decide +kernel)
theorem g_X10_195 {G : GT} {Y : MD} {Z : ZT} {c0 s0 n pc : Nat} {μ : Mem} {L : List (Nat × AV)} {st : List AV} {a : Int} (hY : Y.1.cls = RX10) (hd : decode Y.2.1 pc = .ok (.getfield 195, 3)) (ho : gx G n μ → 0 ≤ a ∧ a < n ∧ SH a = (2, 4)) (w : Wa G Y Z c0 s0 n μ (pc + 3) L (.inl (μ a 3) :: st)) : Wa G Y Z c0 s0 n μ pc L (.inr a :: st) :=
  a_getfN (k := 3) cf_2 hd (by decide) rfl (by rw [hY]; exact lf_X10_195) ho (fun _ => w)
theorem lf_X10_204 : Cond.fieldLinkNest RX10 204 RX0 "hops" "LContactWays$Table;" "ContactWays" ∈ gN := gN_mem (i := 259) (by decide +kernel) (by decide +kernel)
theorem g_X10_204 {G : GT} {Y : MD} {Z : ZT} {c0 s0 n pc : Nat} {μ : Mem} {L : List (Nat × AV)} {st : List AV} {a : Int} (hY : Y.1.cls = RX10) (hd : decode Y.2.1 pc = .ok (.getfield 204, 3)) (ho : gx G n μ → 0 ≤ a ∧ a < n ∧ SH a = (0, 9)) (w : Wa G Y Z c0 s0 n μ (pc + 3) L (.inr (μ a 1) :: st)) : Wa G Y Z c0 s0 n μ pc L (.inr a :: st) :=
  a_getfN (k := 1) cf_0 hd (by decide) rfl (by rw [hY]; exact lf_X10_204) ho (fun _ => w)
theorem gs_X10_204 {G : GT} {Y : MD} {Z : ZT} {c0 s0 n pc : Nat} {μ : Mem} {L : List (Nat × AV)} {st : List AV} {a : Int} (hY : Y.1.cls = RX10) (hd : decode Y.2.1 pc = .ok (.getfield 204, 3)) (hg : gx G = FX) (hs : St a 0 9) (w : Wa G Y Z c0 s0 n μ (pc + 3) L (.inr (a + 1) :: st)) : Wa G Y Z c0 s0 n μ pc L (.inr a :: st) :=
  a_fx (fun f => g_X10_204 hY hd (St_ho hg hs) (by rw [hg] at f; rw [fx_0_1 f hs]; exact w))
theorem lf_X10_220 : Cond.fieldLinkNest RX10 220 RX3 "contactCount" "I" "ContactWays" ∈ gN := gN_mem (i := 147) (by decide +kernel) (by decide +kernel)
theorem g_X10_220 {G : GT} {Y : MD} {Z : ZT} {c0 s0 n pc : Nat} {μ : Mem} {L : List (Nat × AV)} {st : List AV} {a : Int} (hY : Y.1.cls = RX10) (hd : decode Y.2.1 pc = .ok (.getfield 220, 3)) (ho : gx G n μ → 0 ≤ a ∧ a < n ∧ SH a = (3, 4)) (w : Wa G Y Z c0 s0 n μ (pc + 3) L (.inl (μ a 2) :: st)) : Wa G Y Z c0 s0 n μ pc L (.inr a :: st) :=
  a_getfN (k := 2) cf_3 hd (by decide) rfl (by rw [hY]; exact lf_X10_220) ho (fun _ => w)
theorem lf_X10_228 : Cond.fieldLinkNest RX10 228 RX8 "rows" "I" "ContactWays" ∈ gN := gN_mem (i := 197) (by decide +kernel) (by decide +kernel)
theorem g_X10_228 {G : GT} {Y : MD} {Z : ZT} {c0 s0 n pc : Nat} {μ : Mem} {L : List (Nat × AV)} {st : List AV} {a : Int} (hY : Y.1.cls = RX10) (hd : decode Y.2.1 pc = .ok (.getfield 228, 3)) (ho : gx G n μ → 0 ≤ a ∧ a < n ∧ SH a = (8, 3)) (w : Wa G Y Z c0 s0 n μ (pc + 3) L (.inl (μ a 2) :: st)) : Wa G Y Z c0 s0 n μ pc L (.inr a :: st) :=
  a_getfN (k := 2) cf_8 hd (by decide) rfl (by rw [hY]; exact lf_X10_228) ho (fun _ => w)
theorem lf_X10_245 : Cond.fieldLinkNest RX10 245 RX3 "nodes" "I" "ContactWays" ∈ gN := gN_mem (i := 150) (by decide +kernel) (by decide +kernel)
theorem g_X10_245 {G : GT} {Y : MD} {Z : ZT} {c0 s0 n pc : Nat} {μ : Mem} {L : List (Nat × AV)} {st : List AV} {a : Int} (hY : Y.1.cls = RX10) (hd : decode Y.2.1 pc = .ok (.getfield 245, 3)) (ho : gx G n μ → 0 ≤ a ∧ a < n ∧ SH a = (3, 4)) (w : Wa G Y Z c0 s0 n μ (pc + 3) L (.inl (μ a 3) :: st)) : Wa G Y Z c0 s0 n μ pc L (.inr a :: st) :=
  a_getfN (k := 3) cf_3 hd (by decide) rfl (by rw [hY]; exact lf_X10_245) ho (fun _ => w)
theorem lf_X0_9 : Cond.fieldLink RX0 9 RX0 "network" "LContactWays$Network;" ∈ gT := gT_mem (i := 255) (by decide +kernel) (by decide +kernel)
theorem g_X0_9 {G : GT} {Y : MD} {Z : ZT} {c0 s0 n pc : Nat} {μ : Mem} {L : List (Nat × AV)} {st : List AV} {a : Int} (hY : Y.1.cls = RX0) (hd : decode Y.2.1 pc = .ok (.getfield 9, 3)) (ho : gx G n μ → 0 ≤ a ∧ a < n ∧ SH a = (0, 9)) (w : Wa G Y Z c0 s0 n μ (pc + 3) L (.inr (μ a 0) :: st)) : Wa G Y Z c0 s0 n μ pc L (.inr a :: st) :=
  a_getf (k := 0) cf_0 hd (by decide) rfl (by rw [hY]; exact lf_X0_9) ho (fun _ => w)
theorem gs_X0_9 {G : GT} {Y : MD} {Z : ZT} {c0 s0 n pc : Nat} {μ : Mem} {L : List (Nat × AV)} {st : List AV} {a : Int} (hY : Y.1.cls = RX0) (hd : decode Y.2.1 pc = .ok (.getfield 9, 3)) (hg : gx G = FX) (hs : St a 0 9) (w : Wa G Y Z c0 s0 n μ (pc + 3) L (.inr (7) :: st)) : Wa G Y Z c0 s0 n μ pc L (.inr a :: st) :=
  a_fx (fun f => g_X0_9 hY hd (St_ho hg hs) (by rw [hg] at f; rw [fx_0_0 f hs]; exact w))
theorem p_X0_9 {G : GT} {Y : MD} {Z : ZT} {c0 s0 n pc : Nat} {μ : Mem} {L : List (Nat × AV)} {st : List AV} {a v : Int} (hY : Y.1.cls = RX0) (hi : Y.1.name = "<init>") (hd : decode Y.2.1 pc = .ok (.putfield 9, 3)) (ho : gx G n μ → 0 ≤ a ∧ a < n ∧ SH a = (0, 9)) (hx : gx G n μ → gx G n (up μ a 0 v)) (w : Wa G Y Z c0 s0 n (up μ a 0 v) (pc + 3) L st) : Wa G Y Z c0 s0 n μ pc L (.inr v :: .inr a :: st) :=
  a_putF (k := 0) cf_0 hd (by decide) rfl hY.symm hi rfl (sm_0 0 (by decide)) (by rw [hY]; exact lf_X0_9) ho (fun _ => trivial) hx w
theorem lf_X0_20 : Cond.fieldLink RX0 20 RX0 "hops" "LContactWays$Table;" ∈ gT := gT_mem (i := 256) (by decide +kernel) (by decide +kernel)
theorem g_X0_20 {G : GT} {Y : MD} {Z : ZT} {c0 s0 n pc : Nat} {μ : Mem} {L : List (Nat × AV)} {st : List AV} {a : Int} (hY : Y.1.cls = RX0) (hd : decode Y.2.1 pc = .ok (.getfield 20, 3)) (ho : gx G n μ → 0 ≤ a ∧ a < n ∧ SH a = (0, 9)) (w : Wa G Y Z c0 s0 n μ (pc + 3) L (.inr (μ a 1) :: st)) : Wa G Y Z c0 s0 n μ pc L (.inr a :: st) :=
  a_getf (k := 1) cf_0 hd (by decide) rfl (by rw [hY]; exact lf_X0_20) ho (fun _ => w)
theorem gs_X0_20 {G : GT} {Y : MD} {Z : ZT} {c0 s0 n pc : Nat} {μ : Mem} {L : List (Nat × AV)} {st : List AV} {a : Int} (hY : Y.1.cls = RX0) (hd : decode Y.2.1 pc = .ok (.getfield 20, 3)) (hg : gx G = FX) (hs : St a 0 9) (w : Wa G Y Z c0 s0 n μ (pc + 3) L (.inr (a + 1) :: st)) : Wa G Y Z c0 s0 n μ pc L (.inr a :: st) :=
  a_fx (fun f => g_X0_20 hY hd (St_ho hg hs) (by rw [hg] at f; rw [fx_0_1 f hs]; exact w))
theorem p_X0_20 {G : GT} {Y : MD} {Z : ZT} {c0 s0 n pc : Nat} {μ : Mem} {L : List (Nat × AV)} {st : List AV} {a v : Int} (hY : Y.1.cls = RX0) (hi : Y.1.name = "<init>") (hd : decode Y.2.1 pc = .ok (.putfield 20, 3)) (ho : gx G n μ → 0 ≤ a ∧ a < n ∧ SH a = (0, 9)) (hx : gx G n μ → gx G n (up μ a 1 v)) (w : Wa G Y Z c0 s0 n (up μ a 1 v) (pc + 3) L st) : Wa G Y Z c0 s0 n μ pc L (.inr v :: .inr a :: st) :=
  a_putF (k := 1) cf_0 hd (by decide) rfl hY.symm hi rfl (sm_0 1 (by decide)) (by rw [hY]; exact lf_X0_20) ho (fun _ => trivial) hx w
theorem lf_X0_24 : Cond.fieldLink RX0 24 RX0 "node" "I" ∈ gT := gT_mem (i := 260) (by decide +kernel) (by decide +kernel)
theorem g_X0_24 {G : GT} {Y : MD} {Z : ZT} {c0 s0 n pc : Nat} {μ : Mem} {L : List (Nat × AV)} {st : List AV} {a : Int} (hY : Y.1.cls = RX0) (hd : decode Y.2.1 pc = .ok (.getfield 24, 3)) (ho : gx G n μ → 0 ≤ a ∧ a < n ∧ SH a = (0, 9)) (w : Wa G Y Z c0 s0 n μ (pc + 3) L (.inl (μ a 2) :: st)) : Wa G Y Z c0 s0 n μ pc L (.inr a :: st) :=
  a_getf (k := 2) cf_0 hd (by decide) rfl (by rw [hY]; exact lf_X0_24) ho (fun _ => w)
theorem p_X0_24 {G : GT} {Y : MD} {Z : ZT} {c0 s0 n pc : Nat} {μ : Mem} {L : List (Nat × AV)} {st : List AV} {a v : Int} (hY : Y.1.cls = RX0) (hd : decode Y.2.1 pc = .ok (.putfield 24, 3)) (ho : gx G n μ → 0 ≤ a ∧ a < n ∧ SH a = (0, 9)) (hx : gx G n μ → gx G n (up μ a 2 v)) (w : Wa G Y Z c0 s0 n (up μ a 2 v) (pc + 3) L st) : Wa G Y Z c0 s0 n μ pc L (.inl v :: .inr a :: st) :=
  a_putf (k := 2) cf_0 hd (by decide) rfl rfl (sm_0 2 (by decide)) (by rw [hY]; exact lf_X0_24) ho (fun h => h) hx w
theorem lf_X0_28 : Cond.fieldLink RX0 28 RX0 "goal" "I" ∈ gT := gT_mem (i := 261) (by decide +kernel) (by decide +kernel)
theorem g_X0_28 {G : GT} {Y : MD} {Z : ZT} {c0 s0 n pc : Nat} {μ : Mem} {L : List (Nat × AV)} {st : List AV} {a : Int} (hY : Y.1.cls = RX0) (hd : decode Y.2.1 pc = .ok (.getfield 28, 3)) (ho : gx G n μ → 0 ≤ a ∧ a < n ∧ SH a = (0, 9)) (w : Wa G Y Z c0 s0 n μ (pc + 3) L (.inl (μ a 3) :: st)) : Wa G Y Z c0 s0 n μ pc L (.inr a :: st) :=
  a_getf (k := 3) cf_0 hd (by decide) rfl (by rw [hY]; exact lf_X0_28) ho (fun _ => w)
theorem p_X0_28 {G : GT} {Y : MD} {Z : ZT} {c0 s0 n pc : Nat} {μ : Mem} {L : List (Nat × AV)} {st : List AV} {a v : Int} (hY : Y.1.cls = RX0) (hd : decode Y.2.1 pc = .ok (.putfield 28, 3)) (ho : gx G n μ → 0 ≤ a ∧ a < n ∧ SH a = (0, 9)) (hx : gx G n μ → gx G n (up μ a 3 v)) (w : Wa G Y Z c0 s0 n (up μ a 3 v) (pc + 3) L st) : Wa G Y Z c0 s0 n μ pc L (.inl v :: .inr a :: st) :=
  a_putf (k := 3) cf_0 hd (by decide) rfl rfl (sm_0 3 (by decide)) (by rw [hY]; exact lf_X0_28) ho (fun h => h) hx w
theorem lf_X0_31 : Cond.fieldLink RX0 31 RX0 "size" "I" ∈ gT := gT_mem (i := 263) (by decide +kernel) (by decide +kernel)
theorem g_X0_31 {G : GT} {Y : MD} {Z : ZT} {c0 s0 n pc : Nat} {μ : Mem} {L : List (Nat × AV)} {st : List AV} {a : Int} (hY : Y.1.cls = RX0) (hd : decode Y.2.1 pc = .ok (.getfield 31, 3)) (ho : gx G n μ → 0 ≤ a ∧ a < n ∧ SH a = (0, 9)) (w : Wa G Y Z c0 s0 n μ (pc + 3) L (.inl (μ a 4) :: st)) : Wa G Y Z c0 s0 n μ pc L (.inr a :: st) :=
  a_getf (k := 4) cf_0 hd (by decide) rfl (by rw [hY]; exact lf_X0_31) ho (fun _ => w)
theorem p_X0_31 {G : GT} {Y : MD} {Z : ZT} {c0 s0 n pc : Nat} {μ : Mem} {L : List (Nat × AV)} {st : List AV} {a v : Int} (hY : Y.1.cls = RX0) (hd : decode Y.2.1 pc = .ok (.putfield 31, 3)) (ho : gx G n μ → 0 ≤ a ∧ a < n ∧ SH a = (0, 9)) (hx : gx G n μ → gx G n (up μ a 4 v)) (w : Wa G Y Z c0 s0 n (up μ a 4 v) (pc + 3) L st) : Wa G Y Z c0 s0 n μ pc L (.inl v :: .inr a :: st) :=
  a_putf (k := 4) cf_0 hd (by decide) rfl rfl (sm_0 4 (by decide)) (by rw [hY]; exact lf_X0_31) ho (fun h => h) hx w
theorem lf_X0_34 : Cond.fieldLink RX0 34 RX0 "deadline" "I" ∈ gT := gT_mem (i := 265) (by decide +kernel) (by decide +kernel)
theorem g_X0_34 {G : GT} {Y : MD} {Z : ZT} {c0 s0 n pc : Nat} {μ : Mem} {L : List (Nat × AV)} {st : List AV} {a : Int} (hY : Y.1.cls = RX0) (hd : decode Y.2.1 pc = .ok (.getfield 34, 3)) (ho : gx G n μ → 0 ≤ a ∧ a < n ∧ SH a = (0, 9)) (w : Wa G Y Z c0 s0 n μ (pc + 3) L (.inl (μ a 5) :: st)) : Wa G Y Z c0 s0 n μ pc L (.inr a :: st) :=
  a_getf (k := 5) cf_0 hd (by decide) rfl (by rw [hY]; exact lf_X0_34) ho (fun _ => w)
theorem p_X0_34 {G : GT} {Y : MD} {Z : ZT} {c0 s0 n pc : Nat} {μ : Mem} {L : List (Nat × AV)} {st : List AV} {a v : Int} (hY : Y.1.cls = RX0) (hd : decode Y.2.1 pc = .ok (.putfield 34, 3)) (ho : gx G n μ → 0 ≤ a ∧ a < n ∧ SH a = (0, 9)) (hx : gx G n μ → gx G n (up μ a 5 v)) (w : Wa G Y Z c0 s0 n (up μ a 5 v) (pc + 3) L st) : Wa G Y Z c0 s0 n μ pc L (.inl v :: .inr a :: st) :=
  a_putf (k := 5) cf_0 hd (by decide) rfl rfl (sm_0 5 (by decide)) (by rw [hY]; exact lf_X0_34) ho (fun h => h) hx w
theorem lf_X0_37 : Cond.fieldLink RX0 37 RX0 "priority" "I" ∈ gT := gT_mem (i := 267) (by decide +kernel) (by decide +kernel)
theorem g_X0_37 {G : GT} {Y : MD} {Z : ZT} {c0 s0 n pc : Nat} {μ : Mem} {L : List (Nat × AV)} {st : List AV} {a : Int} (hY : Y.1.cls = RX0) (hd : decode Y.2.1 pc = .ok (.getfield 37, 3)) (ho : gx G n μ → 0 ≤ a ∧ a < n ∧ SH a = (0, 9)) (w : Wa G Y Z c0 s0 n μ (pc + 3) L (.inl (μ a 6) :: st)) : Wa G Y Z c0 s0 n μ pc L (.inr a :: st) :=
  a_getf (k := 6) cf_0 hd (by decide) rfl (by rw [hY]; exact lf_X0_37) ho (fun _ => w)
theorem p_X0_37 {G : GT} {Y : MD} {Z : ZT} {c0 s0 n pc : Nat} {μ : Mem} {L : List (Nat × AV)} {st : List AV} {a v : Int} (hY : Y.1.cls = RX0) (hd : decode Y.2.1 pc = .ok (.putfield 37, 3)) (ho : gx G n μ → 0 ≤ a ∧ a < n ∧ SH a = (0, 9)) (hx : gx G n μ → gx G n (up μ a 6 v)) (w : Wa G Y Z c0 s0 n (up μ a 6 v) (pc + 3) L st) : Wa G Y Z c0 s0 n μ pc L (.inl v :: .inr a :: st) :=
  a_putf (k := 6) cf_0 hd (by decide) rfl rfl (sm_0 6 (by decide)) (by rw [hY]; exact lf_X0_37) ho (fun h => h) hx w
theorem lf_X0_40 : Cond.fieldLink RX0 40 RX0 "dropped" "Z" ∈ gT := gT_mem (i := 270) (by decide +kernel) (by decide +kernel)
theorem g_X0_40 {G : GT} {Y : MD} {Z : ZT} {c0 s0 n pc : Nat} {μ : Mem} {L : List (Nat × AV)} {st : List AV} {a : Int} (hY : Y.1.cls = RX0) (hd : decode Y.2.1 pc = .ok (.getfield 40, 3)) (ho : gx G n μ → 0 ≤ a ∧ a < n ∧ SH a = (0, 9)) (w : (μ a 7 = 0 ∨ μ a 7 = 1) → Wa G Y Z c0 s0 n μ (pc + 3) L (.inl (μ a 7) :: st)) : Wa G Y Z c0 s0 n μ pc L (.inr a :: st) :=
  a_getf (k := 7) cf_0 hd (by decide) rfl (by rw [hY]; exact lf_X0_40) ho w
theorem p_X0_40 {G : GT} {Y : MD} {Z : ZT} {c0 s0 n pc : Nat} {μ : Mem} {L : List (Nat × AV)} {st : List AV} {a v : Int} (hY : Y.1.cls = RX0) (hd : decode Y.2.1 pc = .ok (.putfield 40, 3)) (ho : gx G n μ → 0 ≤ a ∧ a < n ∧ SH a = (0, 9)) (hv : v = 0 ∨ v = 1) (hx : gx G n μ → gx G n (up μ a 7 v)) (w : Wa G Y Z c0 s0 n (up μ a 7 v) (pc + 3) L st) : Wa G Y Z c0 s0 n μ pc L (.inl v :: .inr a :: st) :=
  a_putf (k := 7) cf_0 hd (by decide) rfl rfl (sm_0 7 (by decide)) (by rw [hY]; exact lf_X0_40) ho (fun _ => hv) hx w
theorem lf_X0_44 : Cond.fieldLink RX0 44 RX0 "reason" "I" ∈ gT := gT_mem (i := 271) (by decide +kernel) (by decide +kernel)
theorem g_X0_44 {G : GT} {Y : MD} {Z : ZT} {c0 s0 n pc : Nat} {μ : Mem} {L : List (Nat × AV)} {st : List AV} {a : Int} (hY : Y.1.cls = RX0) (hd : decode Y.2.1 pc = .ok (.getfield 44, 3)) (ho : gx G n μ → 0 ≤ a ∧ a < n ∧ SH a = (0, 9)) (w : Wa G Y Z c0 s0 n μ (pc + 3) L (.inl (μ a 8) :: st)) : Wa G Y Z c0 s0 n μ pc L (.inr a :: st) :=
  a_getf (k := 8) cf_0 hd (by decide) rfl (by rw [hY]; exact lf_X0_44) ho (fun _ => w)
theorem p_X0_44 {G : GT} {Y : MD} {Z : ZT} {c0 s0 n pc : Nat} {μ : Mem} {L : List (Nat × AV)} {st : List AV} {a v : Int} (hY : Y.1.cls = RX0) (hd : decode Y.2.1 pc = .ok (.putfield 44, 3)) (ho : gx G n μ → 0 ≤ a ∧ a < n ∧ SH a = (0, 9)) (hx : gx G n μ → gx G n (up μ a 8 v)) (w : Wa G Y Z c0 s0 n (up μ a 8 v) (pc + 3) L st) : Wa G Y Z c0 s0 n μ pc L (.inl v :: .inr a :: st) :=
  a_putf (k := 8) cf_0 hd (by decide) rfl rfl (sm_0 8 (by decide)) (by rw [hY]; exact lf_X0_44) ho (fun h => h) hx w
theorem lf_X0_63 : Cond.fieldLinkNest RX0 63 RX8 "rows" "I" "ContactWays" ∈ gN := gN_mem (i := 196) (by decide +kernel) (by decide +kernel)
theorem g_X0_63 {G : GT} {Y : MD} {Z : ZT} {c0 s0 n pc : Nat} {μ : Mem} {L : List (Nat × AV)} {st : List AV} {a : Int} (hY : Y.1.cls = RX0) (hd : decode Y.2.1 pc = .ok (.getfield 63, 3)) (ho : gx G n μ → 0 ≤ a ∧ a < n ∧ SH a = (8, 3)) (w : Wa G Y Z c0 s0 n μ (pc + 3) L (.inl (μ a 2) :: st)) : Wa G Y Z c0 s0 n μ pc L (.inr a :: st) :=
  a_getfN (k := 2) cf_8 hd (by decide) rfl (by rw [hY]; exact lf_X0_63) ho (fun _ => w)
theorem lf_X0_76 : Cond.fieldLinkNest RX0 76 RX1 "to" "I" "ContactWays" ∈ gN := gN_mem (i := 120) (by decide +kernel) (by decide +kernel)
theorem g_X0_76 {G : GT} {Y : MD} {Z : ZT} {c0 s0 n pc : Nat} {μ : Mem} {L : List (Nat × AV)} {st : List AV} {a : Int} (hY : Y.1.cls = RX0) (hd : decode Y.2.1 pc = .ok (.getfield 76, 3)) (ho : gx G n μ → 0 ≤ a ∧ a < n ∧ SH a = (1, 6)) (w : Wa G Y Z c0 s0 n μ (pc + 3) L (.inl (μ a 1) :: st)) : Wa G Y Z c0 s0 n μ pc L (.inr a :: st) :=
  a_getfN (k := 1) cf_1 hd (by decide) rfl (by rw [hY]; exact lf_X0_76) ho (fun _ => w)
theorem lf_X1_9 : Cond.fieldLink RX1 9 RX1 "from" "I" ∈ gT := gT_mem (i := 117) (by decide +kernel) (by decide +kernel)
theorem g_X1_9 {G : GT} {Y : MD} {Z : ZT} {c0 s0 n pc : Nat} {μ : Mem} {L : List (Nat × AV)} {st : List AV} {a : Int} (hY : Y.1.cls = RX1) (hd : decode Y.2.1 pc = .ok (.getfield 9, 3)) (ho : gx G n μ → 0 ≤ a ∧ a < n ∧ SH a = (1, 6)) (w : Wa G Y Z c0 s0 n μ (pc + 3) L (.inl (μ a 0) :: st)) : Wa G Y Z c0 s0 n μ pc L (.inr a :: st) :=
  a_getf (k := 0) cf_1 hd (by decide) rfl (by rw [hY]; exact lf_X1_9) ho (fun _ => w)
theorem p_X1_9 {G : GT} {Y : MD} {Z : ZT} {c0 s0 n pc : Nat} {μ : Mem} {L : List (Nat × AV)} {st : List AV} {a v : Int} (hY : Y.1.cls = RX1) (hi : Y.1.name = "<init>") (hd : decode Y.2.1 pc = .ok (.putfield 9, 3)) (ho : gx G n μ → 0 ≤ a ∧ a < n ∧ SH a = (1, 6)) (hx : gx G n μ → gx G n (up μ a 0 v)) (w : Wa G Y Z c0 s0 n (up μ a 0 v) (pc + 3) L st) : Wa G Y Z c0 s0 n μ pc L (.inl v :: .inr a :: st) :=
  a_putF (k := 0) cf_1 hd (by decide) rfl hY.symm hi rfl (sm_1 0 (by decide)) (by rw [hY]; exact lf_X1_9) ho (fun h => h) hx w
theorem lf_X1_15 : Cond.fieldLink RX1 15 RX1 "to" "I" ∈ gT := gT_mem (i := 119) (by decide +kernel) (by decide +kernel)
theorem g_X1_15 {G : GT} {Y : MD} {Z : ZT} {c0 s0 n pc : Nat} {μ : Mem} {L : List (Nat × AV)} {st : List AV} {a : Int} (hY : Y.1.cls = RX1) (hd : decode Y.2.1 pc = .ok (.getfield 15, 3)) (ho : gx G n μ → 0 ≤ a ∧ a < n ∧ SH a = (1, 6)) (w : Wa G Y Z c0 s0 n μ (pc + 3) L (.inl (μ a 1) :: st)) : Wa G Y Z c0 s0 n μ pc L (.inr a :: st) :=
  a_getf (k := 1) cf_1 hd (by decide) rfl (by rw [hY]; exact lf_X1_15) ho (fun _ => w)
theorem p_X1_15 {G : GT} {Y : MD} {Z : ZT} {c0 s0 n pc : Nat} {μ : Mem} {L : List (Nat × AV)} {st : List AV} {a v : Int} (hY : Y.1.cls = RX1) (hi : Y.1.name = "<init>") (hd : decode Y.2.1 pc = .ok (.putfield 15, 3)) (ho : gx G n μ → 0 ≤ a ∧ a < n ∧ SH a = (1, 6)) (hx : gx G n μ → gx G n (up μ a 1 v)) (w : Wa G Y Z c0 s0 n (up μ a 1 v) (pc + 3) L st) : Wa G Y Z c0 s0 n μ pc L (.inl v :: .inr a :: st) :=
  a_putF (k := 1) cf_1 hd (by decide) rfl hY.symm hi rfl (sm_1 1 (by decide)) (by rw [hY]; exact lf_X1_15) ho (fun h => h) hx w
theorem lf_X1_18 : Cond.fieldLink RX1 18 RX1 "start" "I" ∈ gT := gT_mem (i := 122) (by decide +kernel) (by decide +kernel)
theorem g_X1_18 {G : GT} {Y : MD} {Z : ZT} {c0 s0 n pc : Nat} {μ : Mem} {L : List (Nat × AV)} {st : List AV} {a : Int} (hY : Y.1.cls = RX1) (hd : decode Y.2.1 pc = .ok (.getfield 18, 3)) (ho : gx G n μ → 0 ≤ a ∧ a < n ∧ SH a = (1, 6)) (w : Wa G Y Z c0 s0 n μ (pc + 3) L (.inl (μ a 2) :: st)) : Wa G Y Z c0 s0 n μ pc L (.inr a :: st) :=
  a_getf (k := 2) cf_1 hd (by decide) rfl (by rw [hY]; exact lf_X1_18) ho (fun _ => w)
theorem p_X1_18 {G : GT} {Y : MD} {Z : ZT} {c0 s0 n pc : Nat} {μ : Mem} {L : List (Nat × AV)} {st : List AV} {a v : Int} (hY : Y.1.cls = RX1) (hi : Y.1.name = "<init>") (hd : decode Y.2.1 pc = .ok (.putfield 18, 3)) (ho : gx G n μ → 0 ≤ a ∧ a < n ∧ SH a = (1, 6)) (hx : gx G n μ → gx G n (up μ a 2 v)) (w : Wa G Y Z c0 s0 n (up μ a 2 v) (pc + 3) L st) : Wa G Y Z c0 s0 n μ pc L (.inl v :: .inr a :: st) :=
  a_putF (k := 2) cf_1 hd (by decide) rfl hY.symm hi rfl (sm_1 2 (by decide)) (by rw [hY]; exact lf_X1_18) ho (fun h => h) hx w
theorem lf_X1_21 : Cond.fieldLink RX1 21 RX1 "end" "I" ∈ gT := gT_mem (i := 124) (by decide +kernel) (by decide +kernel)
theorem g_X1_21 {G : GT} {Y : MD} {Z : ZT} {c0 s0 n pc : Nat} {μ : Mem} {L : List (Nat × AV)} {st : List AV} {a : Int} (hY : Y.1.cls = RX1) (hd : decode Y.2.1 pc = .ok (.getfield 21, 3)) (ho : gx G n μ → 0 ≤ a ∧ a < n ∧ SH a = (1, 6)) (w : Wa G Y Z c0 s0 n μ (pc + 3) L (.inl (μ a 3) :: st)) : Wa G Y Z c0 s0 n μ pc L (.inr a :: st) :=
  a_getf (k := 3) cf_1 hd (by decide) rfl (by rw [hY]; exact lf_X1_21) ho (fun _ => w)
theorem p_X1_21 {G : GT} {Y : MD} {Z : ZT} {c0 s0 n pc : Nat} {μ : Mem} {L : List (Nat × AV)} {st : List AV} {a v : Int} (hY : Y.1.cls = RX1) (hi : Y.1.name = "<init>") (hd : decode Y.2.1 pc = .ok (.putfield 21, 3)) (ho : gx G n μ → 0 ≤ a ∧ a < n ∧ SH a = (1, 6)) (hx : gx G n μ → gx G n (up μ a 3 v)) (w : Wa G Y Z c0 s0 n (up μ a 3 v) (pc + 3) L st) : Wa G Y Z c0 s0 n μ pc L (.inl v :: .inr a :: st) :=
  a_putF (k := 3) cf_1 hd (by decide) rfl hY.symm hi rfl (sm_1 3 (by decide)) (by rw [hY]; exact lf_X1_21) ho (fun h => h) hx w
theorem lf_X1_24 : Cond.fieldLink RX1 24 RX1 "rate" "I" ∈ gT := gT_mem (i := 126) (by decide +kernel) (by decide +kernel)
theorem g_X1_24 {G : GT} {Y : MD} {Z : ZT} {c0 s0 n pc : Nat} {μ : Mem} {L : List (Nat × AV)} {st : List AV} {a : Int} (hY : Y.1.cls = RX1) (hd : decode Y.2.1 pc = .ok (.getfield 24, 3)) (ho : gx G n μ → 0 ≤ a ∧ a < n ∧ SH a = (1, 6)) (w : Wa G Y Z c0 s0 n μ (pc + 3) L (.inl (μ a 4) :: st)) : Wa G Y Z c0 s0 n μ pc L (.inr a :: st) :=
  a_getf (k := 4) cf_1 hd (by decide) rfl (by rw [hY]; exact lf_X1_24) ho (fun _ => w)
theorem p_X1_24 {G : GT} {Y : MD} {Z : ZT} {c0 s0 n pc : Nat} {μ : Mem} {L : List (Nat × AV)} {st : List AV} {a v : Int} (hY : Y.1.cls = RX1) (hi : Y.1.name = "<init>") (hd : decode Y.2.1 pc = .ok (.putfield 24, 3)) (ho : gx G n μ → 0 ≤ a ∧ a < n ∧ SH a = (1, 6)) (hx : gx G n μ → gx G n (up μ a 4 v)) (w : Wa G Y Z c0 s0 n (up μ a 4 v) (pc + 3) L st) : Wa G Y Z c0 s0 n μ pc L (.inl v :: .inr a :: st) :=
  a_putF (k := 4) cf_1 hd (by decide) rfl hY.symm hi rfl (sm_1 4 (by decide)) (by rw [hY]; exact lf_X1_24) ho (fun h => h) hx w
theorem lf_X1_27 : Cond.fieldLink RX1 27 RX1 "light" "I" ∈ gT := gT_mem (i := 127) (by decide +kernel) (by decide +kernel)
theorem g_X1_27 {G : GT} {Y : MD} {Z : ZT} {c0 s0 n pc : Nat} {μ : Mem} {L : List (Nat × AV)} {st : List AV} {a : Int} (hY : Y.1.cls = RX1) (hd : decode Y.2.1 pc = .ok (.getfield 27, 3)) (ho : gx G n μ → 0 ≤ a ∧ a < n ∧ SH a = (1, 6)) (w : Wa G Y Z c0 s0 n μ (pc + 3) L (.inl (μ a 5) :: st)) : Wa G Y Z c0 s0 n μ pc L (.inr a :: st) :=
  a_getf (k := 5) cf_1 hd (by decide) rfl (by rw [hY]; exact lf_X1_27) ho (fun _ => w)
theorem p_X1_27 {G : GT} {Y : MD} {Z : ZT} {c0 s0 n pc : Nat} {μ : Mem} {L : List (Nat × AV)} {st : List AV} {a v : Int} (hY : Y.1.cls = RX1) (hi : Y.1.name = "<init>") (hd : decode Y.2.1 pc = .ok (.putfield 27, 3)) (ho : gx G n μ → 0 ≤ a ∧ a < n ∧ SH a = (1, 6)) (hx : gx G n μ → gx G n (up μ a 5 v)) (w : Wa G Y Z c0 s0 n (up μ a 5 v) (pc + 3) L st) : Wa G Y Z c0 s0 n μ pc L (.inl v :: .inr a :: st) :=
  a_putF (k := 5) cf_1 hd (by decide) rfl hY.symm hi rfl (sm_1 5 (by decide)) (by rw [hY]; exact lf_X1_27) ho (fun h => h) hx w
theorem lf_X2_14 : Cond.fieldLink RX2 14 RX2 "spare" "LContactWays$Situation;" ∈ gT := gT_mem (i := 324) (by decide +kernel) (by decide +kernel)
theorem g_X2_14 {G : GT} {Y : MD} {Z : ZT} {c0 s0 n pc : Nat} {μ : Mem} {L : List (Nat × AV)} {st : List AV} {a : Int} (hY : Y.1.cls = RX2) (hd : decode Y.2.1 pc = .ok (.getfield 14, 3)) (ho : gx G n μ → 0 ≤ a ∧ a < n ∧ SH a = (2, 4)) (w : Wa G Y Z c0 s0 n μ (pc + 3) L (.inr (μ a 0) :: st)) : Wa G Y Z c0 s0 n μ pc L (.inr a :: st) :=
  a_getf (k := 0) cf_2 hd (by decide) rfl (by rw [hY]; exact lf_X2_14) ho (fun _ => w)
theorem gs_X2_14 {G : GT} {Y : MD} {Z : ZT} {c0 s0 n pc : Nat} {μ : Mem} {L : List (Nat × AV)} {st : List AV} {a : Int} (hY : Y.1.cls = RX2) (hd : decode Y.2.1 pc = .ok (.getfield 14, 3)) (hg : gx G = FX) (hs : St a 2 4) (w : Wa G Y Z c0 s0 n μ (pc + 3) L (.inr (77) :: st)) : Wa G Y Z c0 s0 n μ pc L (.inr a :: st) :=
  a_fx (fun f => g_X2_14 hY hd (St_ho hg hs) (by rw [hg] at f; rw [fx_2_0 f hs]; exact w))
theorem p_X2_14 {G : GT} {Y : MD} {Z : ZT} {c0 s0 n pc : Nat} {μ : Mem} {L : List (Nat × AV)} {st : List AV} {a v : Int} (hY : Y.1.cls = RX2) (hi : Y.1.name = "<init>") (hd : decode Y.2.1 pc = .ok (.putfield 14, 3)) (ho : gx G n μ → 0 ≤ a ∧ a < n ∧ SH a = (2, 4)) (hx : gx G n μ → gx G n (up μ a 0 v)) (w : Wa G Y Z c0 s0 n (up μ a 0 v) (pc + 3) L st) : Wa G Y Z c0 s0 n μ pc L (.inr v :: .inr a :: st) :=
  a_putF (k := 0) cf_2 hd (by decide) rfl hY.symm hi rfl (sm_2 0 (by decide)) (by rw [hY]; exact lf_X2_14) ho (fun _ => trivial) hx w
theorem lf_X2_20 : Cond.fieldLink RX2 20 RX2 "slots" "[LContactWays$Situation;" ∈ gT := gT_mem (i := 325) (by decide +kernel) (by decide +kernel)
theorem g_X2_20 {G : GT} {Y : MD} {Z : ZT} {c0 s0 n pc : Nat} {μ : Mem} {L : List (Nat × AV)} {st : List AV} {a : Int} (hY : Y.1.cls = RX2) (hd : decode Y.2.1 pc = .ok (.getfield 20, 3)) (ho : gx G n μ → 0 ≤ a ∧ a < n ∧ SH a = (2, 4)) (w : Wa G Y Z c0 s0 n μ (pc + 3) L (.inr (μ a 1) :: st)) : Wa G Y Z c0 s0 n μ pc L (.inr a :: st) :=
  a_getf (k := 1) cf_2 hd (by decide) rfl (by rw [hY]; exact lf_X2_20) ho (fun _ => w)
theorem gs_X2_20 {G : GT} {Y : MD} {Z : ZT} {c0 s0 n pc : Nat} {μ : Mem} {L : List (Nat × AV)} {st : List AV} {a : Int} (hY : Y.1.cls = RX2) (hd : decode Y.2.1 pc = .ok (.getfield 20, 3)) (hg : gx G = FX) (hs : St a 2 4) (w : Wa G Y Z c0 s0 n μ (pc + 3) L (.inr (106) :: st)) : Wa G Y Z c0 s0 n μ pc L (.inr a :: st) :=
  a_fx (fun f => g_X2_20 hY hd (St_ho hg hs) (by rw [hg] at f; rw [fx_2_1 f hs]; exact w))
theorem p_X2_20 {G : GT} {Y : MD} {Z : ZT} {c0 s0 n pc : Nat} {μ : Mem} {L : List (Nat × AV)} {st : List AV} {a v : Int} (hY : Y.1.cls = RX2) (hi : Y.1.name = "<init>") (hd : decode Y.2.1 pc = .ok (.putfield 20, 3)) (ho : gx G n μ → 0 ≤ a ∧ a < n ∧ SH a = (2, 4)) (hx : gx G n μ → gx G n (up μ a 1 v)) (w : Wa G Y Z c0 s0 n (up μ a 1 v) (pc + 3) L st) : Wa G Y Z c0 s0 n μ pc L (.inr v :: .inr a :: st) :=
  a_putF (k := 1) cf_2 hd (by decide) rfl hY.symm hi rfl (sm_2 1 (by decide)) (by rw [hY]; exact lf_X2_20) ho (fun _ => trivial) hx w
theorem lf_X2_24 : Cond.fieldLink RX2 24 RX2 "next" "I" ∈ gT := gT_mem (i := 326) (by decide +kernel) (by decide +kernel)
theorem g_X2_24 {G : GT} {Y : MD} {Z : ZT} {c0 s0 n pc : Nat} {μ : Mem} {L : List (Nat × AV)} {st : List AV} {a : Int} (hY : Y.1.cls = RX2) (hd : decode Y.2.1 pc = .ok (.getfield 24, 3)) (ho : gx G n μ → 0 ≤ a ∧ a < n ∧ SH a = (2, 4)) (w : Wa G Y Z c0 s0 n μ (pc + 3) L (.inl (μ a 2) :: st)) : Wa G Y Z c0 s0 n μ pc L (.inr a :: st) :=
  a_getf (k := 2) cf_2 hd (by decide) rfl (by rw [hY]; exact lf_X2_24) ho (fun _ => w)
theorem p_X2_24 {G : GT} {Y : MD} {Z : ZT} {c0 s0 n pc : Nat} {μ : Mem} {L : List (Nat × AV)} {st : List AV} {a v : Int} (hY : Y.1.cls = RX2) (hd : decode Y.2.1 pc = .ok (.putfield 24, 3)) (ho : gx G n μ → 0 ≤ a ∧ a < n ∧ SH a = (2, 4)) (hx : gx G n μ → gx G n (up μ a 2 v)) (w : Wa G Y Z c0 s0 n (up μ a 2 v) (pc + 3) L st) : Wa G Y Z c0 s0 n μ pc L (.inl v :: .inr a :: st) :=
  a_putf (k := 2) cf_2 hd (by decide) rfl rfl (sm_2 2 (by decide)) (by rw [hY]; exact lf_X2_24) ho (fun h => h) hx w
theorem lf_X2_28 : Cond.fieldLink RX2 28 RX2 "kept" "I" ∈ gT := gT_mem (i := 327) (by decide +kernel) (by decide +kernel)
theorem g_X2_28 {G : GT} {Y : MD} {Z : ZT} {c0 s0 n pc : Nat} {μ : Mem} {L : List (Nat × AV)} {st : List AV} {a : Int} (hY : Y.1.cls = RX2) (hd : decode Y.2.1 pc = .ok (.getfield 28, 3)) (ho : gx G n μ → 0 ≤ a ∧ a < n ∧ SH a = (2, 4)) (w : Wa G Y Z c0 s0 n μ (pc + 3) L (.inl (μ a 3) :: st)) : Wa G Y Z c0 s0 n μ pc L (.inr a :: st) :=
  a_getf (k := 3) cf_2 hd (by decide) rfl (by rw [hY]; exact lf_X2_28) ho (fun _ => w)
theorem p_X2_28 {G : GT} {Y : MD} {Z : ZT} {c0 s0 n pc : Nat} {μ : Mem} {L : List (Nat × AV)} {st : List AV} {a v : Int} (hY : Y.1.cls = RX2) (hd : decode Y.2.1 pc = .ok (.putfield 28, 3)) (ho : gx G n μ → 0 ≤ a ∧ a < n ∧ SH a = (2, 4)) (hx : gx G n μ → gx G n (up μ a 3 v)) (w : Wa G Y Z c0 s0 n (up μ a 3 v) (pc + 3) L st) : Wa G Y Z c0 s0 n μ pc L (.inl v :: .inr a :: st) :=
  a_putf (k := 3) cf_2 hd (by decide) rfl rfl (sm_2 3 (by decide)) (by rw [hY]; exact lf_X2_28) ho (fun h => h) hx w
theorem lf_X3_14 : Cond.fieldLink RX3 14 RX3 "nowhere" "LContactWays$Contact;" ∈ gT := gT_mem (i := 143) (by decide +kernel) (by decide +kernel)
theorem g_X3_14 {G : GT} {Y : MD} {Z : ZT} {c0 s0 n pc : Nat} {μ : Mem} {L : List (Nat × AV)} {st : List AV} {a : Int} (hY : Y.1.cls = RX3) (hd : decode Y.2.1 pc = .ok (.getfield 14, 3)) (ho : gx G n μ → 0 ≤ a ∧ a < n ∧ SH a = (3, 4)) (w : Wa G Y Z c0 s0 n μ (pc + 3) L (.inr (μ a 0) :: st)) : Wa G Y Z c0 s0 n μ pc L (.inr a :: st) :=
  a_getf (k := 0) cf_3 hd (by decide) rfl (by rw [hY]; exact lf_X3_14) ho (fun _ => w)
theorem gs_X3_14 {G : GT} {Y : MD} {Z : ZT} {c0 s0 n pc : Nat} {μ : Mem} {L : List (Nat × AV)} {st : List AV} {a : Int} (hY : Y.1.cls = RX3) (hd : decode Y.2.1 pc = .ok (.getfield 14, 3)) (hg : gx G = FX) (hs : St a 3 4) (w : Wa G Y Z c0 s0 n μ (pc + 3) L (.inr (a + 1) :: st)) : Wa G Y Z c0 s0 n μ pc L (.inr a :: st) :=
  a_fx (fun f => g_X3_14 hY hd (St_ho hg hs) (by rw [hg] at f; rw [fx_3_0 f hs]; exact w))
theorem p_X3_14 {G : GT} {Y : MD} {Z : ZT} {c0 s0 n pc : Nat} {μ : Mem} {L : List (Nat × AV)} {st : List AV} {a v : Int} (hY : Y.1.cls = RX3) (hi : Y.1.name = "<init>") (hd : decode Y.2.1 pc = .ok (.putfield 14, 3)) (ho : gx G n μ → 0 ≤ a ∧ a < n ∧ SH a = (3, 4)) (hx : gx G n μ → gx G n (up μ a 0 v)) (w : Wa G Y Z c0 s0 n (up μ a 0 v) (pc + 3) L st) : Wa G Y Z c0 s0 n μ pc L (.inr v :: .inr a :: st) :=
  a_putF (k := 0) cf_3 hd (by decide) rfl hY.symm hi rfl (sm_3 0 (by decide)) (by rw [hY]; exact lf_X3_14) ho (fun _ => trivial) hx w
theorem lf_X3_20 : Cond.fieldLink RX3 20 RX3 "contacts" "[LContactWays$Contact;" ∈ gT := gT_mem (i := 144) (by decide +kernel) (by decide +kernel)
theorem g_X3_20 {G : GT} {Y : MD} {Z : ZT} {c0 s0 n pc : Nat} {μ : Mem} {L : List (Nat × AV)} {st : List AV} {a : Int} (hY : Y.1.cls = RX3) (hd : decode Y.2.1 pc = .ok (.getfield 20, 3)) (ho : gx G n μ → 0 ≤ a ∧ a < n ∧ SH a = (3, 4)) (w : Wa G Y Z c0 s0 n μ (pc + 3) L (.inr (μ a 1) :: st)) : Wa G Y Z c0 s0 n μ pc L (.inr a :: st) :=
  a_getf (k := 1) cf_3 hd (by decide) rfl (by rw [hY]; exact lf_X3_20) ho (fun _ => w)
theorem gs_X3_20 {G : GT} {Y : MD} {Z : ZT} {c0 s0 n pc : Nat} {μ : Mem} {L : List (Nat × AV)} {st : List AV} {a : Int} (hY : Y.1.cls = RX3) (hd : decode Y.2.1 pc = .ok (.getfield 20, 3)) (hg : gx G = FX) (hs : St a 3 4) (w : Wa G Y Z c0 s0 n μ (pc + 3) L (.inr (a + 2) :: st)) : Wa G Y Z c0 s0 n μ pc L (.inr a :: st) :=
  a_fx (fun f => g_X3_20 hY hd (St_ho hg hs) (by rw [hg] at f; rw [fx_3_1 f hs]; exact w))
theorem p_X3_20 {G : GT} {Y : MD} {Z : ZT} {c0 s0 n pc : Nat} {μ : Mem} {L : List (Nat × AV)} {st : List AV} {a v : Int} (hY : Y.1.cls = RX3) (hi : Y.1.name = "<init>") (hd : decode Y.2.1 pc = .ok (.putfield 20, 3)) (ho : gx G n μ → 0 ≤ a ∧ a < n ∧ SH a = (3, 4)) (hx : gx G n μ → gx G n (up μ a 1 v)) (w : Wa G Y Z c0 s0 n (up μ a 1 v) (pc + 3) L st) : Wa G Y Z c0 s0 n μ pc L (.inr v :: .inr a :: st) :=
  a_putF (k := 1) cf_3 hd (by decide) rfl hY.symm hi rfl (sm_3 1 (by decide)) (by rw [hY]; exact lf_X3_20) ho (fun _ => trivial) hx w
theorem lf_X3_24 : Cond.fieldLink RX3 24 RX3 "contactCount" "I" ∈ gT := gT_mem (i := 145) (by decide +kernel) (by decide +kernel)
theorem g_X3_24 {G : GT} {Y : MD} {Z : ZT} {c0 s0 n pc : Nat} {μ : Mem} {L : List (Nat × AV)} {st : List AV} {a : Int} (hY : Y.1.cls = RX3) (hd : decode Y.2.1 pc = .ok (.getfield 24, 3)) (ho : gx G n μ → 0 ≤ a ∧ a < n ∧ SH a = (3, 4)) (w : Wa G Y Z c0 s0 n μ (pc + 3) L (.inl (μ a 2) :: st)) : Wa G Y Z c0 s0 n μ pc L (.inr a :: st) :=
  a_getf (k := 2) cf_3 hd (by decide) rfl (by rw [hY]; exact lf_X3_24) ho (fun _ => w)
theorem p_X3_24 {G : GT} {Y : MD} {Z : ZT} {c0 s0 n pc : Nat} {μ : Mem} {L : List (Nat × AV)} {st : List AV} {a v : Int} (hY : Y.1.cls = RX3) (hd : decode Y.2.1 pc = .ok (.putfield 24, 3)) (ho : gx G n μ → 0 ≤ a ∧ a < n ∧ SH a = (3, 4)) (hx : gx G n μ → gx G n (up μ a 2 v)) (w : Wa G Y Z c0 s0 n (up μ a 2 v) (pc + 3) L st) : Wa G Y Z c0 s0 n μ pc L (.inl v :: .inr a :: st) :=
  a_putf (k := 2) cf_3 hd (by decide) rfl rfl (sm_3 2 (by decide)) (by rw [hY]; exact lf_X3_24) ho (fun h => h) hx w
theorem lf_X3_28 : Cond.fieldLink RX3 28 RX3 "nodes" "I" ∈ gT := gT_mem (i := 148) (by decide +kernel) (by decide +kernel)
theorem g_X3_28 {G : GT} {Y : MD} {Z : ZT} {c0 s0 n pc : Nat} {μ : Mem} {L : List (Nat × AV)} {st : List AV} {a : Int} (hY : Y.1.cls = RX3) (hd : decode Y.2.1 pc = .ok (.getfield 28, 3)) (ho : gx G n μ → 0 ≤ a ∧ a < n ∧ SH a = (3, 4)) (w : Wa G Y Z c0 s0 n μ (pc + 3) L (.inl (μ a 3) :: st)) : Wa G Y Z c0 s0 n μ pc L (.inr a :: st) :=
  a_getf (k := 3) cf_3 hd (by decide) rfl (by rw [hY]; exact lf_X3_28) ho (fun _ => w)
theorem p_X3_28 {G : GT} {Y : MD} {Z : ZT} {c0 s0 n pc : Nat} {μ : Mem} {L : List (Nat × AV)} {st : List AV} {a v : Int} (hY : Y.1.cls = RX3) (hd : decode Y.2.1 pc = .ok (.putfield 28, 3)) (ho : gx G n μ → 0 ≤ a ∧ a < n ∧ SH a = (3, 4)) (hx : gx G n μ → gx G n (up μ a 3 v)) (w : Wa G Y Z c0 s0 n (up μ a 3 v) (pc + 3) L st) : Wa G Y Z c0 s0 n μ pc L (.inl v :: .inr a :: st) :=
  a_putf (k := 3) cf_3 hd (by decide) rfl rfl (sm_3 3 (by decide)) (by rw [hY]; exact lf_X3_28) ho (fun h => h) hx w
theorem lf_X4_9 : Cond.fieldLink RX4 9 RX4 "text" "LContactWays$Text;" ∈ gT := gT_mem (i := 160) (by decide +kernel) (by decide +kernel)
theorem g_X4_9 {G : GT} {Y : MD} {Z : ZT} {c0 s0 n pc : Nat} {μ : Mem} {L : List (Nat × AV)} {st : List AV} {a : Int} (hY : Y.1.cls = RX4) (hd : decode Y.2.1 pc = .ok (.getfield 9, 3)) (ho : gx G n μ → 0 ≤ a ∧ a < n ∧ SH a = (4, 4)) (w : Wa G Y Z c0 s0 n μ (pc + 3) L (.inr (μ a 0) :: st)) : Wa G Y Z c0 s0 n μ pc L (.inr a :: st) :=
  a_getf (k := 0) cf_4 hd (by decide) rfl (by rw [hY]; exact lf_X4_9) ho (fun _ => w)
theorem gs_X4_9 {G : GT} {Y : MD} {Z : ZT} {c0 s0 n pc : Nat} {μ : Mem} {L : List (Nat × AV)} {st : List AV} {a : Int} (hY : Y.1.cls = RX4) (hd : decode Y.2.1 pc = .ok (.getfield 9, 3)) (hg : gx G = FX) (hs : St a 4 4) (w : Wa G Y Z c0 s0 n μ (pc + 3) L (.inr (1) :: st)) : Wa G Y Z c0 s0 n μ pc L (.inr a :: st) :=
  a_fx (fun f => g_X4_9 hY hd (St_ho hg hs) (by rw [hg] at f; rw [fx_4_0 f hs]; exact w))
theorem p_X4_9 {G : GT} {Y : MD} {Z : ZT} {c0 s0 n pc : Nat} {μ : Mem} {L : List (Nat × AV)} {st : List AV} {a v : Int} (hY : Y.1.cls = RX4) (hi : Y.1.name = "<init>") (hd : decode Y.2.1 pc = .ok (.putfield 9, 3)) (ho : gx G n μ → 0 ≤ a ∧ a < n ∧ SH a = (4, 4)) (hx : gx G n μ → gx G n (up μ a 0 v)) (w : Wa G Y Z c0 s0 n (up μ a 0 v) (pc + 3) L st) : Wa G Y Z c0 s0 n μ pc L (.inr v :: .inr a :: st) :=
  a_putF (k := 0) cf_4 hd (by decide) rfl hY.symm hi rfl (sm_4 0 (by decide)) (by rw [hY]; exact lf_X4_9) ho (fun _ => trivial) hx w
theorem lf_X4_18 : Cond.fieldLink RX4 18 RX4 "draft" "LContactWays$Network;" ∈ gT := gT_mem (i := 161) (by decide +kernel) (by decide +kernel)
theorem g_X4_18 {G : GT} {Y : MD} {Z : ZT} {c0 s0 n pc : Nat} {μ : Mem} {L : List (Nat × AV)} {st : List AV} {a : Int} (hY : Y.1.cls = RX4) (hd : decode Y.2.1 pc = .ok (.getfield 18, 3)) (ho : gx G n μ → 0 ≤ a ∧ a < n ∧ SH a = (4, 4)) (w : Wa G Y Z c0 s0 n μ (pc + 3) L (.inr (μ a 1) :: st)) : Wa G Y Z c0 s0 n μ pc L (.inr a :: st) :=
  a_getf (k := 1) cf_4 hd (by decide) rfl (by rw [hY]; exact lf_X4_18) ho (fun _ => w)
theorem gs_X4_18 {G : GT} {Y : MD} {Z : ZT} {c0 s0 n pc : Nat} {μ : Mem} {L : List (Nat × AV)} {st : List AV} {a : Int} (hY : Y.1.cls = RX4) (hd : decode Y.2.1 pc = .ok (.getfield 18, 3)) (hg : gx G = FX) (hs : St a 4 4) (w : Wa G Y Z c0 s0 n μ (pc + 3) L (.inr (4) :: st)) : Wa G Y Z c0 s0 n μ pc L (.inr a :: st) :=
  a_fx (fun f => g_X4_18 hY hd (St_ho hg hs) (by rw [hg] at f; rw [fx_4_1 f hs]; exact w))
theorem p_X4_18 {G : GT} {Y : MD} {Z : ZT} {c0 s0 n pc : Nat} {μ : Mem} {L : List (Nat × AV)} {st : List AV} {a v : Int} (hY : Y.1.cls = RX4) (hi : Y.1.name = "<init>") (hd : decode Y.2.1 pc = .ok (.putfield 18, 3)) (ho : gx G n μ → 0 ≤ a ∧ a < n ∧ SH a = (4, 4)) (hx : gx G n μ → gx G n (up μ a 1 v)) (w : Wa G Y Z c0 s0 n (up μ a 1 v) (pc + 3) L st) : Wa G Y Z c0 s0 n μ pc L (.inr v :: .inr a :: st) :=
  a_putF (k := 1) cf_4 hd (by decide) rfl hY.symm hi rfl (sm_4 1 (by decide)) (by rw [hY]; exact lf_X4_18) ho (fun _ => trivial) hx w
theorem lf_X4_22 : Cond.fieldLink RX4 22 RX4 "position" "I" ∈ gT := gT_mem (i := 163) (by decide +kernel) (by decide +kernel)
theorem g_X4_22 {G : GT} {Y : MD} {Z : ZT} {c0 s0 n pc : Nat} {μ : Mem} {L : List (Nat × AV)} {st : List AV} {a : Int} (hY : Y.1.cls = RX4) (hd : decode Y.2.1 pc = .ok (.getfield 22, 3)) (ho : gx G n μ → 0 ≤ a ∧ a < n ∧ SH a = (4, 4)) (w : Wa G Y Z c0 s0 n μ (pc + 3) L (.inl (μ a 2) :: st)) : Wa G Y Z c0 s0 n μ pc L (.inr a :: st) :=
  a_getf (k := 2) cf_4 hd (by decide) rfl (by rw [hY]; exact lf_X4_22) ho (fun _ => w)
theorem p_X4_22 {G : GT} {Y : MD} {Z : ZT} {c0 s0 n pc : Nat} {μ : Mem} {L : List (Nat × AV)} {st : List AV} {a v : Int} (hY : Y.1.cls = RX4) (hd : decode Y.2.1 pc = .ok (.putfield 22, 3)) (ho : gx G n μ → 0 ≤ a ∧ a < n ∧ SH a = (4, 4)) (hx : gx G n μ → gx G n (up μ a 2 v)) (w : Wa G Y Z c0 s0 n (up μ a 2 v) (pc + 3) L st) : Wa G Y Z c0 s0 n μ pc L (.inl v :: .inr a :: st) :=
  a_putf (k := 2) cf_4 hd (by decide) rfl rfl (sm_4 2 (by decide)) (by rw [hY]; exact lf_X4_22) ho (fun h => h) hx w
theorem lf_X4_26 : Cond.fieldLink RX4 26 RX4 "fault" "I" ∈ gT := gT_mem (i := 164) (by decide +kernel) (by decide +kernel)
theorem g_X4_26 {G : GT} {Y : MD} {Z : ZT} {c0 s0 n pc : Nat} {μ : Mem} {L : List (Nat × AV)} {st : List AV} {a : Int} (hY : Y.1.cls = RX4) (hd : decode Y.2.1 pc = .ok (.getfield 26, 3)) (ho : gx G n μ → 0 ≤ a ∧ a < n ∧ SH a = (4, 4)) (w : Wa G Y Z c0 s0 n μ (pc + 3) L (.inl (μ a 3) :: st)) : Wa G Y Z c0 s0 n μ pc L (.inr a :: st) :=
  a_getf (k := 3) cf_4 hd (by decide) rfl (by rw [hY]; exact lf_X4_26) ho (fun _ => w)
theorem p_X4_26 {G : GT} {Y : MD} {Z : ZT} {c0 s0 n pc : Nat} {μ : Mem} {L : List (Nat × AV)} {st : List AV} {a v : Int} (hY : Y.1.cls = RX4) (hd : decode Y.2.1 pc = .ok (.putfield 26, 3)) (ho : gx G n μ → 0 ≤ a ∧ a < n ∧ SH a = (4, 4)) (hx : gx G n μ → gx G n (up μ a 3 v)) (w : Wa G Y Z c0 s0 n (up μ a 3 v) (pc + 3) L st) : Wa G Y Z c0 s0 n μ pc L (.inl v :: .inr a :: st) :=
  a_putf (k := 3) cf_4 hd (by decide) rfl rfl (sm_4 3 (by decide)) (by rw [hY]; exact lf_X4_26) ho (fun h => h) hx w
theorem lf_X4_35 : Cond.fieldLinkNest RX4 35 RX9 "length" "I" "ContactWays" ∈ gN := gN_mem (i := 92) (by decide +kernel) (by decide +kernel)
theorem g_X4_35 {G : GT} {Y : MD} {Z : ZT} {c0 s0 n pc : Nat} {μ : Mem} {L : List (Nat × AV)} {st : List AV} {a : Int} (hY : Y.1.cls = RX4) (hd : decode Y.2.1 pc = .ok (.getfield 35, 3)) (ho : gx G n μ → 0 ≤ a ∧ a < n ∧ SH a = (9, 2)) (w : Wa G Y Z c0 s0 n μ (pc + 3) L (.inl (μ a 1) :: st)) : Wa G Y Z c0 s0 n μ pc L (.inr a :: st) :=
  a_getfN (k := 1) cf_9 hd (by decide) rfl (by rw [hY]; exact lf_X4_35) ho (fun _ => w)
theorem lf_X4_69 : Cond.fieldLinkNest RX4 69 RX3 "nodes" "I" "ContactWays" ∈ gN := gN_mem (i := 149) (by decide +kernel) (by decide +kernel)
theorem g_X4_69 {G : GT} {Y : MD} {Z : ZT} {c0 s0 n pc : Nat} {μ : Mem} {L : List (Nat × AV)} {st : List AV} {a : Int} (hY : Y.1.cls = RX4) (hd : decode Y.2.1 pc = .ok (.getfield 69, 3)) (ho : gx G n μ → 0 ≤ a ∧ a < n ∧ SH a = (3, 4)) (w : Wa G Y Z c0 s0 n μ (pc + 3) L (.inl (μ a 3) :: st)) : Wa G Y Z c0 s0 n μ pc L (.inr a :: st) :=
  a_getfN (k := 3) cf_3 hd (by decide) rfl (by rw [hY]; exact lf_X4_69) ho (fun _ => w)
theorem p_X4_69 {G : GT} {Y : MD} {Z : ZT} {c0 s0 n pc : Nat} {μ : Mem} {L : List (Nat × AV)} {st : List AV} {a v : Int} (hY : Y.1.cls = RX4) (hd : decode Y.2.1 pc = .ok (.putfield 69, 3)) (ho : gx G n μ → 0 ≤ a ∧ a < n ∧ SH a = (3, 4)) (hx : gx G n μ → gx G n (up μ a 3 v)) (w : Wa G Y Z c0 s0 n (up μ a 3 v) (pc + 3) L st) : Wa G Y Z c0 s0 n μ pc L (.inl v :: .inr a :: st) :=
  a_putfN (k := 3) cf_3 hd (by decide) rfl rfl (sm_3 3 (by decide)) (by rw [hY]; exact lf_X4_69) ho (fun h => h) hx w
theorem lf_X5_9 : Cond.fieldLink RX5 9 RX5 "router" "LContactWays$Router;" ∈ gT := gT_mem (i := 237) (by decide +kernel) (by decide +kernel)
theorem g_X5_9 {G : GT} {Y : MD} {Z : ZT} {c0 s0 n pc : Nat} {μ : Mem} {L : List (Nat × AV)} {st : List AV} {a : Int} (hY : Y.1.cls = RX5) (hd : decode Y.2.1 pc = .ok (.getfield 9, 3)) (ho : gx G n μ → 0 ≤ a ∧ a < n ∧ SH a = (5, 1)) (w : Wa G Y Z c0 s0 n μ (pc + 3) L (.inr (μ a 0) :: st)) : Wa G Y Z c0 s0 n μ pc L (.inr a :: st) :=
  a_getf (k := 0) cf_5 hd (by decide) rfl (by rw [hY]; exact lf_X5_9) ho (fun _ => w)
theorem gs_X5_9 {G : GT} {Y : MD} {Z : ZT} {c0 s0 n pc : Nat} {μ : Mem} {L : List (Nat × AV)} {st : List AV} {a : Int} (hY : Y.1.cls = RX5) (hd : decode Y.2.1 pc = .ok (.getfield 9, 3)) (hg : gx G = FX) (hs : St a 5 1) (w : Wa G Y Z c0 s0 n μ (pc + 3) L (.inr (10) :: st)) : Wa G Y Z c0 s0 n μ pc L (.inr a :: st) :=
  a_fx (fun f => g_X5_9 hY hd (St_ho hg hs) (by rw [hg] at f; rw [fx_5_0 f hs]; exact w))
theorem p_X5_9 {G : GT} {Y : MD} {Z : ZT} {c0 s0 n pc : Nat} {μ : Mem} {L : List (Nat × AV)} {st : List AV} {a v : Int} (hY : Y.1.cls = RX5) (hi : Y.1.name = "<init>") (hd : decode Y.2.1 pc = .ok (.putfield 9, 3)) (ho : gx G n μ → 0 ≤ a ∧ a < n ∧ SH a = (5, 1)) (hx : gx G n μ → gx G n (up μ a 0 v)) (w : Wa G Y Z c0 s0 n (up μ a 0 v) (pc + 3) L st) : Wa G Y Z c0 s0 n μ pc L (.inr v :: .inr a :: st) :=
  a_putF (k := 0) cf_5 hd (by decide) rfl hY.symm hi rfl (sm_5 0 (by decide)) (by rw [hY]; exact lf_X5_9) ho (fun _ => trivial) hx w
theorem lf_X5_26 : Cond.fieldLinkNest RX5 26 RX7 "bundleCount" "I" "ContactWays" ∈ gN := gN_mem (i := 297) (by decide +kernel) (by decide +kernel)
theorem g_X5_26 {G : GT} {Y : MD} {Z : ZT} {c0 s0 n pc : Nat} {μ : Mem} {L : List (Nat × AV)} {st : List AV} {a : Int} (hY : Y.1.cls = RX5) (hd : decode Y.2.1 pc = .ok (.getfield 26, 3)) (ho : gx G n μ → 0 ≤ a ∧ a < n ∧ SH a = (7, 5)) (w : Wa G Y Z c0 s0 n μ (pc + 3) L (.inl (μ a 2) :: st)) : Wa G Y Z c0 s0 n μ pc L (.inr a :: st) :=
  a_getfN (k := 2) cf_7 hd (by decide) rfl (by rw [hY]; exact lf_X5_26) ho (fun _ => w)
theorem lf_X5_36 : Cond.fieldLinkNest RX5 36 RX0 "priority" "I" "ContactWays" ∈ gN := gN_mem (i := 269) (by decide +kernel) (by decide +kernel)
theorem g_X5_36 {G : GT} {Y : MD} {Z : ZT} {c0 s0 n pc : Nat} {μ : Mem} {L : List (Nat × AV)} {st : List AV} {a : Int} (hY : Y.1.cls = RX5) (hd : decode Y.2.1 pc = .ok (.getfield 36, 3)) (ho : gx G n μ → 0 ≤ a ∧ a < n ∧ SH a = (0, 9)) (w : Wa G Y Z c0 s0 n μ (pc + 3) L (.inl (μ a 6) :: st)) : Wa G Y Z c0 s0 n μ pc L (.inr a :: st) :=
  a_getfN (k := 6) cf_0 hd (by decide) rfl (by rw [hY]; exact lf_X5_36) ho (fun _ => w)
theorem lf_X5_41 : Cond.fieldLinkNest RX5 41 RX7 "now" "I" "ContactWays" ∈ gN := gN_mem (i := 301) (by decide +kernel) (by decide +kernel)
theorem g_X5_41 {G : GT} {Y : MD} {Z : ZT} {c0 s0 n pc : Nat} {μ : Mem} {L : List (Nat × AV)} {st : List AV} {a : Int} (hY : Y.1.cls = RX5) (hd : decode Y.2.1 pc = .ok (.getfield 41, 3)) (ho : gx G n μ → 0 ≤ a ∧ a < n ∧ SH a = (7, 5)) (w : Wa G Y Z c0 s0 n μ (pc + 3) L (.inl (μ a 3) :: st)) : Wa G Y Z c0 s0 n μ pc L (.inr a :: st) :=
  a_getfN (k := 3) cf_7 hd (by decide) rfl (by rw [hY]; exact lf_X5_41) ho (fun _ => w)
theorem lf_X5_52 : Cond.fieldLinkNest RX5 52 RX0 "goal" "I" "ContactWays" ∈ gN := gN_mem (i := 262) (by decide +kernel) (by decide +kernel)
theorem g_X5_52 {G : GT} {Y : MD} {Z : ZT} {c0 s0 n pc : Nat} {μ : Mem} {L : List (Nat × AV)} {st : List AV} {a : Int} (hY : Y.1.cls = RX5) (hd : decode Y.2.1 pc = .ok (.getfield 52, 3)) (ho : gx G n μ → 0 ≤ a ∧ a < n ∧ SH a = (0, 9)) (w : Wa G Y Z c0 s0 n μ (pc + 3) L (.inl (μ a 3) :: st)) : Wa G Y Z c0 s0 n μ pc L (.inr a :: st) :=
  a_getfN (k := 3) cf_0 hd (by decide) rfl (by rw [hY]; exact lf_X5_52) ho (fun _ => w)
theorem lf_X5_55 : Cond.fieldLinkNest RX5 55 RX0 "hops" "LContactWays$Table;" "ContactWays" ∈ gN := gN_mem (i := 258) (by decide +kernel) (by decide +kernel)
theorem g_X5_55 {G : GT} {Y : MD} {Z : ZT} {c0 s0 n pc : Nat} {μ : Mem} {L : List (Nat × AV)} {st : List AV} {a : Int} (hY : Y.1.cls = RX5) (hd : decode Y.2.1 pc = .ok (.getfield 55, 3)) (ho : gx G n μ → 0 ≤ a ∧ a < n ∧ SH a = (0, 9)) (w : Wa G Y Z c0 s0 n μ (pc + 3) L (.inr (μ a 1) :: st)) : Wa G Y Z c0 s0 n μ pc L (.inr a :: st) :=
  a_getfN (k := 1) cf_0 hd (by decide) rfl (by rw [hY]; exact lf_X5_55) ho (fun _ => w)
theorem gs_X5_55 {G : GT} {Y : MD} {Z : ZT} {c0 s0 n pc : Nat} {μ : Mem} {L : List (Nat × AV)} {st : List AV} {a : Int} (hY : Y.1.cls = RX5) (hd : decode Y.2.1 pc = .ok (.getfield 55, 3)) (hg : gx G = FX) (hs : St a 0 9) (w : Wa G Y Z c0 s0 n μ (pc + 3) L (.inr (a + 1) :: st)) : Wa G Y Z c0 s0 n μ pc L (.inr a :: st) :=
  a_fx (fun f => g_X5_55 hY hd (St_ho hg hs) (by rw [hg] at f; rw [fx_0_1 f hs]; exact w))
theorem lf_X5_59 : Cond.fieldLinkNest RX5 59 RX8 "rows" "I" "ContactWays" ∈ gN := gN_mem (i := 195) (by decide +kernel) (by decide +kernel)
theorem g_X5_59 {G : GT} {Y : MD} {Z : ZT} {c0 s0 n pc : Nat} {μ : Mem} {L : List (Nat × AV)} {st : List AV} {a : Int} (hY : Y.1.cls = RX5) (hd : decode Y.2.1 pc = .ok (.getfield 59, 3)) (ho : gx G n μ → 0 ≤ a ∧ a < n ∧ SH a = (8, 3)) (w : Wa G Y Z c0 s0 n μ (pc + 3) L (.inl (μ a 2) :: st)) : Wa G Y Z c0 s0 n μ pc L (.inr a :: st) :=
  a_getfN (k := 2) cf_8 hd (by decide) rfl (by rw [hY]; exact lf_X5_59) ho (fun _ => w)
theorem lf_X5_73 : Cond.fieldLinkNest RX5 73 RX0 "size" "I" "ContactWays" ∈ gN := gN_mem (i := 264) (by decide +kernel) (by decide +kernel)
theorem g_X5_73 {G : GT} {Y : MD} {Z : ZT} {c0 s0 n pc : Nat} {μ : Mem} {L : List (Nat × AV)} {st : List AV} {a : Int} (hY : Y.1.cls = RX5) (hd : decode Y.2.1 pc = .ok (.getfield 73, 3)) (ho : gx G n μ → 0 ≤ a ∧ a < n ∧ SH a = (0, 9)) (w : Wa G Y Z c0 s0 n μ (pc + 3) L (.inl (μ a 4) :: st)) : Wa G Y Z c0 s0 n μ pc L (.inr a :: st) :=
  a_getfN (k := 4) cf_0 hd (by decide) rfl (by rw [hY]; exact lf_X5_73) ho (fun _ => w)
theorem lf_X5_80 : Cond.fieldLinkNest RX5 80 RX0 "deadline" "I" "ContactWays" ∈ gN := gN_mem (i := 266) (by decide +kernel) (by decide +kernel)
theorem g_X5_80 {G : GT} {Y : MD} {Z : ZT} {c0 s0 n pc : Nat} {μ : Mem} {L : List (Nat × AV)} {st : List AV} {a : Int} (hY : Y.1.cls = RX5) (hd : decode Y.2.1 pc = .ok (.getfield 80, 3)) (ho : gx G n μ → 0 ≤ a ∧ a < n ∧ SH a = (0, 9)) (w : Wa G Y Z c0 s0 n μ (pc + 3) L (.inl (μ a 5) :: st)) : Wa G Y Z c0 s0 n μ pc L (.inr a :: st) :=
  a_getfN (k := 5) cf_0 hd (by decide) rfl (by rw [hY]; exact lf_X5_80) ho (fun _ => w)
theorem lf_X5_83 : Cond.fieldLinkNest RX5 83 RX0 "reason" "I" "ContactWays" ∈ gN := gN_mem (i := 272) (by decide +kernel) (by decide +kernel)
theorem p_X5_83 {G : GT} {Y : MD} {Z : ZT} {c0 s0 n pc : Nat} {μ : Mem} {L : List (Nat × AV)} {st : List AV} {a v : Int} (hY : Y.1.cls = RX5) (hd : decode Y.2.1 pc = .ok (.putfield 83, 3)) (ho : gx G n μ → 0 ≤ a ∧ a < n ∧ SH a = (0, 9)) (hx : gx G n μ → gx G n (up μ a 8 v)) (w : Wa G Y Z c0 s0 n (up μ a 8 v) (pc + 3) L st) : Wa G Y Z c0 s0 n μ pc L (.inl v :: .inr a :: st) :=
  a_putfN (k := 8) cf_0 hd (by decide) rfl rfl (sm_0 8 (by decide)) (by rw [hY]; exact lf_X5_83) ho (fun h => h) hx w
theorem lf_X5_86 : Cond.fieldLinkNest RX5 86 RX6 "best" "LContactWays$Table;" "ContactWays" ∈ gN := gN_mem (i := 209) (by decide +kernel) (by decide +kernel)
theorem g_X5_86 {G : GT} {Y : MD} {Z : ZT} {c0 s0 n pc : Nat} {μ : Mem} {L : List (Nat × AV)} {st : List AV} {a : Int} (hY : Y.1.cls = RX5) (hd : decode Y.2.1 pc = .ok (.getfield 86, 3)) (ho : gx G n μ → 0 ≤ a ∧ a < n ∧ SH a = (6, 8)) (w : Wa G Y Z c0 s0 n μ (pc + 3) L (.inr (μ a 3) :: st)) : Wa G Y Z c0 s0 n μ pc L (.inr a :: st) :=
  a_getfN (k := 3) cf_6 hd (by decide) rfl (by rw [hY]; exact lf_X5_86) ho (fun _ => w)
theorem gs_X5_86 {G : GT} {Y : MD} {Z : ZT} {c0 s0 n pc : Nat} {μ : Mem} {L : List (Nat × AV)} {st : List AV} {a : Int} (hY : Y.1.cls = RX5) (hd : decode Y.2.1 pc = .ok (.getfield 86, 3)) (hg : gx G = FX) (hs : St a 6 8) (w : Wa G Y Z c0 s0 n μ (pc + 3) L (.inr (15) :: st)) : Wa G Y Z c0 s0 n μ pc L (.inr a :: st) :=
  a_fx (fun f => g_X5_86 hY hd (St_ho hg hs) (by rw [hg] at f; rw [fx_6_3 f hs]; exact w))
theorem lf_X6_9 : Cond.fieldLink RX6 9 RX6 "network" "LContactWays$Network;" ∈ gT := gT_mem (i := 205) (by decide +kernel) (by decide +kernel)
theorem g_X6_9 {G : GT} {Y : MD} {Z : ZT} {c0 s0 n pc : Nat} {μ : Mem} {L : List (Nat × AV)} {st : List AV} {a : Int} (hY : Y.1.cls = RX6) (hd : decode Y.2.1 pc = .ok (.getfield 9, 3)) (ho : gx G n μ → 0 ≤ a ∧ a < n ∧ SH a = (6, 8)) (w : Wa G Y Z c0 s0 n μ (pc + 3) L (.inr (μ a 0) :: st)) : Wa G Y Z c0 s0 n μ pc L (.inr a :: st) :=
  a_getf (k := 0) cf_6 hd (by decide) rfl (by rw [hY]; exact lf_X6_9) ho (fun _ => w)
theorem gs_X6_9 {G : GT} {Y : MD} {Z : ZT} {c0 s0 n pc : Nat} {μ : Mem} {L : List (Nat × AV)} {st : List AV} {a : Int} (hY : Y.1.cls = RX6) (hd : decode Y.2.1 pc = .ok (.getfield 9, 3)) (hg : gx G = FX) (hs : St a 6 8) (w : Wa G Y Z c0 s0 n μ (pc + 3) L (.inr (7) :: st)) : Wa G Y Z c0 s0 n μ pc L (.inr a :: st) :=
  a_fx (fun f => g_X6_9 hY hd (St_ho hg hs) (by rw [hg] at f; rw [fx_6_0 f hs]; exact w))
theorem p_X6_9 {G : GT} {Y : MD} {Z : ZT} {c0 s0 n pc : Nat} {μ : Mem} {L : List (Nat × AV)} {st : List AV} {a v : Int} (hY : Y.1.cls = RX6) (hi : Y.1.name = "<init>") (hd : decode Y.2.1 pc = .ok (.putfield 9, 3)) (ho : gx G n μ → 0 ≤ a ∧ a < n ∧ SH a = (6, 8)) (hx : gx G n μ → gx G n (up μ a 0 v)) (w : Wa G Y Z c0 s0 n (up μ a 0 v) (pc + 3) L st) : Wa G Y Z c0 s0 n μ pc L (.inr v :: .inr a :: st) :=
  a_putF (k := 0) cf_6 hd (by decide) rfl hY.symm hi rfl (sm_6 0 (by decide)) (by rw [hY]; exact lf_X6_9) ho (fun _ => trivial) hx w
theorem lf_X6_20 : Cond.fieldLink RX6 20 RX6 "freeRuns" "LContactWays$Table;" ∈ gT := gT_mem (i := 206) (by decide +kernel) (by decide +kernel)
theorem g_X6_20 {G : GT} {Y : MD} {Z : ZT} {c0 s0 n pc : Nat} {μ : Mem} {L : List (Nat × AV)} {st : List AV} {a : Int} (hY : Y.1.cls = RX6) (hd : decode Y.2.1 pc = .ok (.getfield 20, 3)) (ho : gx G n μ → 0 ≤ a ∧ a < n ∧ SH a = (6, 8)) (w : Wa G Y Z c0 s0 n μ (pc + 3) L (.inr (μ a 1) :: st)) : Wa G Y Z c0 s0 n μ pc L (.inr a :: st) :=
  a_getf (k := 1) cf_6 hd (by decide) rfl (by rw [hY]; exact lf_X6_20) ho (fun _ => w)
theorem gs_X6_20 {G : GT} {Y : MD} {Z : ZT} {c0 s0 n pc : Nat} {μ : Mem} {L : List (Nat × AV)} {st : List AV} {a : Int} (hY : Y.1.cls = RX6) (hd : decode Y.2.1 pc = .ok (.getfield 20, 3)) (hg : gx G = FX) (hs : St a 6 8) (w : Wa G Y Z c0 s0 n μ (pc + 3) L (.inr (11) :: st)) : Wa G Y Z c0 s0 n μ pc L (.inr a :: st) :=
  a_fx (fun f => g_X6_20 hY hd (St_ho hg hs) (by rw [hg] at f; rw [fx_6_1 f hs]; exact w))
theorem p_X6_20 {G : GT} {Y : MD} {Z : ZT} {c0 s0 n pc : Nat} {μ : Mem} {L : List (Nat × AV)} {st : List AV} {a v : Int} (hY : Y.1.cls = RX6) (hi : Y.1.name = "<init>") (hd : decode Y.2.1 pc = .ok (.putfield 20, 3)) (ho : gx G n μ → 0 ≤ a ∧ a < n ∧ SH a = (6, 8)) (hx : gx G n μ → gx G n (up μ a 1 v)) (w : Wa G Y Z c0 s0 n (up μ a 1 v) (pc + 3) L st) : Wa G Y Z c0 s0 n μ pc L (.inr v :: .inr a :: st) :=
  a_putF (k := 1) cf_6 hd (by decide) rfl hY.symm hi rfl (sm_6 1 (by decide)) (by rw [hY]; exact lf_X6_20) ho (fun _ => trivial) hx w
theorem lf_X6_24 : Cond.fieldLink RX6 24 RX6 "trail" "LContactWays$Table;" ∈ gT := gT_mem (i := 207) (by decide +kernel) (by decide +kernel)
theorem g_X6_24 {G : GT} {Y : MD} {Z : ZT} {c0 s0 n pc : Nat} {μ : Mem} {L : List (Nat × AV)} {st : List AV} {a : Int} (hY : Y.1.cls = RX6) (hd : decode Y.2.1 pc = .ok (.getfield 24, 3)) (ho : gx G n μ → 0 ≤ a ∧ a < n ∧ SH a = (6, 8)) (w : Wa G Y Z c0 s0 n μ (pc + 3) L (.inr (μ a 2) :: st)) : Wa G Y Z c0 s0 n μ pc L (.inr a :: st) :=
  a_getf (k := 2) cf_6 hd (by decide) rfl (by rw [hY]; exact lf_X6_24) ho (fun _ => w)
theorem gs_X6_24 {G : GT} {Y : MD} {Z : ZT} {c0 s0 n pc : Nat} {μ : Mem} {L : List (Nat × AV)} {st : List AV} {a : Int} (hY : Y.1.cls = RX6) (hd : decode Y.2.1 pc = .ok (.getfield 24, 3)) (hg : gx G = FX) (hs : St a 6 8) (w : Wa G Y Z c0 s0 n μ (pc + 3) L (.inr (13) :: st)) : Wa G Y Z c0 s0 n μ pc L (.inr a :: st) :=
  a_fx (fun f => g_X6_24 hY hd (St_ho hg hs) (by rw [hg] at f; rw [fx_6_2 f hs]; exact w))
theorem p_X6_24 {G : GT} {Y : MD} {Z : ZT} {c0 s0 n pc : Nat} {μ : Mem} {L : List (Nat × AV)} {st : List AV} {a v : Int} (hY : Y.1.cls = RX6) (hi : Y.1.name = "<init>") (hd : decode Y.2.1 pc = .ok (.putfield 24, 3)) (ho : gx G n μ → 0 ≤ a ∧ a < n ∧ SH a = (6, 8)) (hx : gx G n μ → gx G n (up μ a 2 v)) (w : Wa G Y Z c0 s0 n (up μ a 2 v) (pc + 3) L st) : Wa G Y Z c0 s0 n μ pc L (.inr v :: .inr a :: st) :=
  a_putF (k := 2) cf_6 hd (by decide) rfl hY.symm hi rfl (sm_6 2 (by decide)) (by rw [hY]; exact lf_X6_24) ho (fun _ => trivial) hx w
theorem lf_X6_27 : Cond.fieldLink RX6 27 RX6 "best" "LContactWays$Table;" ∈ gT := gT_mem (i := 208) (by decide +kernel) (by decide +kernel)
theorem g_X6_27 {G : GT} {Y : MD} {Z : ZT} {c0 s0 n pc : Nat} {μ : Mem} {L : List (Nat × AV)} {st : List AV} {a : Int} (hY : Y.1.cls = RX6) (hd : decode Y.2.1 pc = .ok (.getfield 27, 3)) (ho : gx G n μ → 0 ≤ a ∧ a < n ∧ SH a = (6, 8)) (w : Wa G Y Z c0 s0 n μ (pc + 3) L (.inr (μ a 3) :: st)) : Wa G Y Z c0 s0 n μ pc L (.inr a :: st) :=
  a_getf (k := 3) cf_6 hd (by decide) rfl (by rw [hY]; exact lf_X6_27) ho (fun _ => w)
theorem gs_X6_27 {G : GT} {Y : MD} {Z : ZT} {c0 s0 n pc : Nat} {μ : Mem} {L : List (Nat × AV)} {st : List AV} {a : Int} (hY : Y.1.cls = RX6) (hd : decode Y.2.1 pc = .ok (.getfield 27, 3)) (hg : gx G = FX) (hs : St a 6 8) (w : Wa G Y Z c0 s0 n μ (pc + 3) L (.inr (15) :: st)) : Wa G Y Z c0 s0 n μ pc L (.inr a :: st) :=
  a_fx (fun f => g_X6_27 hY hd (St_ho hg hs) (by rw [hg] at f; rw [fx_6_3 f hs]; exact w))
theorem p_X6_27 {G : GT} {Y : MD} {Z : ZT} {c0 s0 n pc : Nat} {μ : Mem} {L : List (Nat × AV)} {st : List AV} {a v : Int} (hY : Y.1.cls = RX6) (hi : Y.1.name = "<init>") (hd : decode Y.2.1 pc = .ok (.putfield 27, 3)) (ho : gx G n μ → 0 ≤ a ∧ a < n ∧ SH a = (6, 8)) (hx : gx G n μ → gx G n (up μ a 3 v)) (w : Wa G Y Z c0 s0 n (up μ a 3 v) (pc + 3) L st) : Wa G Y Z c0 s0 n μ pc L (.inr v :: .inr a :: st) :=
  a_putF (k := 3) cf_6 hd (by decide) rfl hY.symm hi rfl (sm_6 3 (by decide)) (by rw [hY]; exact lf_X6_27) ho (fun _ => trivial) hx w
theorem lf_X6_30 : Cond.fieldLink RX6 30 RX6 "bestThere" "I" ∈ gT := gT_mem (i := 210) (by decide +kernel) (by decide +kernel)
theorem g_X6_30 {G : GT} {Y : MD} {Z : ZT} {c0 s0 n pc : Nat} {μ : Mem} {L : List (Nat × AV)} {st : List AV} {a : Int} (hY : Y.1.cls = RX6) (hd : decode Y.2.1 pc = .ok (.getfield 30, 3)) (ho : gx G n μ → 0 ≤ a ∧ a < n ∧ SH a = (6, 8)) (w : Wa G Y Z c0 s0 n μ (pc + 3) L (.inl (μ a 4) :: st)) : Wa G Y Z c0 s0 n μ pc L (.inr a :: st) :=
  a_getf (k := 4) cf_6 hd (by decide) rfl (by rw [hY]; exact lf_X6_30) ho (fun _ => w)
theorem p_X6_30 {G : GT} {Y : MD} {Z : ZT} {c0 s0 n pc : Nat} {μ : Mem} {L : List (Nat × AV)} {st : List AV} {a v : Int} (hY : Y.1.cls = RX6) (hd : decode Y.2.1 pc = .ok (.putfield 30, 3)) (ho : gx G n μ → 0 ≤ a ∧ a < n ∧ SH a = (6, 8)) (hx : gx G n μ → gx G n (up μ a 4 v)) (w : Wa G Y Z c0 s0 n (up μ a 4 v) (pc + 3) L st) : Wa G Y Z c0 s0 n μ pc L (.inl v :: .inr a :: st) :=
  a_putf (k := 4) cf_6 hd (by decide) rfl rfl (sm_6 4 (by decide)) (by rw [hY]; exact lf_X6_30) ho (fun h => h) hx w
theorem lf_X6_38 : Cond.fieldLinkNest RX6 38 RX7 "bundleCount" "I" "ContactWays" ∈ gN := gN_mem (i := 296) (by decide +kernel) (by decide +kernel)
theorem g_X6_38 {G : GT} {Y : MD} {Z : ZT} {c0 s0 n pc : Nat} {μ : Mem} {L : List (Nat × AV)} {st : List AV} {a : Int} (hY : Y.1.cls = RX6) (hd : decode Y.2.1 pc = .ok (.getfield 38, 3)) (ho : gx G n μ → 0 ≤ a ∧ a < n ∧ SH a = (7, 5)) (w : Wa G Y Z c0 s0 n μ (pc + 3) L (.inl (μ a 2) :: st)) : Wa G Y Z c0 s0 n μ pc L (.inr a :: st) :=
  a_getfN (k := 2) cf_7 hd (by decide) rfl (by rw [hY]; exact lf_X6_38) ho (fun _ => w)
theorem lf_X6_47 : Cond.fieldLinkNest RX6 47 RX0 "hops" "LContactWays$Table;" "ContactWays" ∈ gN := gN_mem (i := 257) (by decide +kernel) (by decide +kernel)
theorem g_X6_47 {G : GT} {Y : MD} {Z : ZT} {c0 s0 n pc : Nat} {μ : Mem} {L : List (Nat × AV)} {st : List AV} {a : Int} (hY : Y.1.cls = RX6) (hd : decode Y.2.1 pc = .ok (.getfield 47, 3)) (ho : gx G n μ → 0 ≤ a ∧ a < n ∧ SH a = (0, 9)) (w : Wa G Y Z c0 s0 n μ (pc + 3) L (.inr (μ a 1) :: st)) : Wa G Y Z c0 s0 n μ pc L (.inr a :: st) :=
  a_getfN (k := 1) cf_0 hd (by decide) rfl (by rw [hY]; exact lf_X6_47) ho (fun _ => w)
theorem gs_X6_47 {G : GT} {Y : MD} {Z : ZT} {c0 s0 n pc : Nat} {μ : Mem} {L : List (Nat × AV)} {st : List AV} {a : Int} (hY : Y.1.cls = RX6) (hd : decode Y.2.1 pc = .ok (.getfield 47, 3)) (hg : gx G = FX) (hs : St a 0 9) (w : Wa G Y Z c0 s0 n μ (pc + 3) L (.inr (a + 1) :: st)) : Wa G Y Z c0 s0 n μ pc L (.inr a :: st) :=
  a_fx (fun f => g_X6_47 hY hd (St_ho hg hs) (by rw [hg] at f; rw [fx_0_1 f hs]; exact w))
theorem lf_X6_52 : Cond.fieldLinkNest RX6 52 RX8 "rows" "I" "ContactWays" ∈ gN := gN_mem (i := 194) (by decide +kernel) (by decide +kernel)
theorem g_X6_52 {G : GT} {Y : MD} {Z : ZT} {c0 s0 n pc : Nat} {μ : Mem} {L : List (Nat × AV)} {st : List AV} {a : Int} (hY : Y.1.cls = RX6) (hd : decode Y.2.1 pc = .ok (.getfield 52, 3)) (ho : gx G n μ → 0 ≤ a ∧ a < n ∧ SH a = (8, 3)) (w : Wa G Y Z c0 s0 n μ (pc + 3) L (.inl (μ a 2) :: st)) : Wa G Y Z c0 s0 n μ pc L (.inr a :: st) :=
  a_getfN (k := 2) cf_8 hd (by decide) rfl (by rw [hY]; exact lf_X6_52) ho (fun _ => w)
theorem lf_X6_59 : Cond.fieldLinkNest RX6 59 RX7 "now" "I" "ContactWays" ∈ gN := gN_mem (i := 300) (by decide +kernel) (by decide +kernel)
theorem g_X6_59 {G : GT} {Y : MD} {Z : ZT} {c0 s0 n pc : Nat} {μ : Mem} {L : List (Nat × AV)} {st : List AV} {a : Int} (hY : Y.1.cls = RX6) (hd : decode Y.2.1 pc = .ok (.getfield 59, 3)) (ho : gx G n μ → 0 ≤ a ∧ a < n ∧ SH a = (7, 5)) (w : Wa G Y Z c0 s0 n μ (pc + 3) L (.inl (μ a 3) :: st)) : Wa G Y Z c0 s0 n μ pc L (.inr a :: st) :=
  a_getfN (k := 3) cf_7 hd (by decide) rfl (by rw [hY]; exact lf_X6_59) ho (fun _ => w)
theorem lf_X6_62 : Cond.fieldLinkNest RX6 62 RX0 "priority" "I" "ContactWays" ∈ gN := gN_mem (i := 268) (by decide +kernel) (by decide +kernel)
theorem g_X6_62 {G : GT} {Y : MD} {Z : ZT} {c0 s0 n pc : Nat} {μ : Mem} {L : List (Nat × AV)} {st : List AV} {a : Int} (hY : Y.1.cls = RX6) (hd : decode Y.2.1 pc = .ok (.getfield 62, 3)) (ho : gx G n μ → 0 ≤ a ∧ a < n ∧ SH a = (0, 9)) (w : Wa G Y Z c0 s0 n μ (pc + 3) L (.inl (μ a 6) :: st)) : Wa G Y Z c0 s0 n μ pc L (.inr a :: st) :=
  a_getfN (k := 6) cf_0 hd (by decide) rfl (by rw [hY]; exact lf_X6_62) ho (fun _ => w)
theorem lf_X6_76 : Cond.fieldLinkNest RX6 76 RX3 "contactCount" "I" "ContactWays" ∈ gN := gN_mem (i := 146) (by decide +kernel) (by decide +kernel)
theorem g_X6_76 {G : GT} {Y : MD} {Z : ZT} {c0 s0 n pc : Nat} {μ : Mem} {L : List (Nat × AV)} {st : List AV} {a : Int} (hY : Y.1.cls = RX6) (hd : decode Y.2.1 pc = .ok (.getfield 76, 3)) (ho : gx G n μ → 0 ≤ a ∧ a < n ∧ SH a = (3, 4)) (w : Wa G Y Z c0 s0 n μ (pc + 3) L (.inl (μ a 2) :: st)) : Wa G Y Z c0 s0 n μ pc L (.inr a :: st) :=
  a_getfN (k := 2) cf_3 hd (by decide) rfl (by rw [hY]; exact lf_X6_76) ho (fun _ => w)
theorem lf_X6_85 : Cond.fieldLinkNest RX6 85 RX1 "start" "I" "ContactWays" ∈ gN := gN_mem (i := 123) (by decide +kernel) (by decide +kernel)
theorem g_X6_85 {G : GT} {Y : MD} {Z : ZT} {c0 s0 n pc : Nat} {μ : Mem} {L : List (Nat × AV)} {st : List AV} {a : Int} (hY : Y.1.cls = RX6) (hd : decode Y.2.1 pc = .ok (.getfield 85, 3)) (ho : gx G n μ → 0 ≤ a ∧ a < n ∧ SH a = (1, 6)) (w : Wa G Y Z c0 s0 n μ (pc + 3) L (.inl (μ a 2) :: st)) : Wa G Y Z c0 s0 n μ pc L (.inr a :: st) :=
  a_getfN (k := 2) cf_1 hd (by decide) rfl (by rw [hY]; exact lf_X6_85) ho (fun _ => w)
theorem lf_X6_99 : Cond.fieldLinkNest RX6 99 RX1 "end" "I" "ContactWays" ∈ gN := gN_mem (i := 125) (by decide +kernel) (by decide +kernel)
theorem g_X6_99 {G : GT} {Y : MD} {Z : ZT} {c0 s0 n pc : Nat} {μ : Mem} {L : List (Nat × AV)} {st : List AV} {a : Int} (hY : Y.1.cls = RX6) (hd : decode Y.2.1 pc = .ok (.getfield 99, 3)) (ho : gx G n μ → 0 ≤ a ∧ a < n ∧ SH a = (1, 6)) (w : Wa G Y Z c0 s0 n μ (pc + 3) L (.inl (μ a 3) :: st)) : Wa G Y Z c0 s0 n μ pc L (.inr a :: st) :=
  a_getfN (k := 3) cf_1 hd (by decide) rfl (by rw [hY]; exact lf_X6_99) ho (fun _ => w)
theorem lf_X6_110 : Cond.fieldLink RX6 110 RX6 "goal" "I" ∈ gT := gT_mem (i := 211) (by decide +kernel) (by decide +kernel)
theorem g_X6_110 {G : GT} {Y : MD} {Z : ZT} {c0 s0 n pc : Nat} {μ : Mem} {L : List (Nat × AV)} {st : List AV} {a : Int} (hY : Y.1.cls = RX6) (hd : decode Y.2.1 pc = .ok (.getfield 110, 3)) (ho : gx G n μ → 0 ≤ a ∧ a < n ∧ SH a = (6, 8)) (w : Wa G Y Z c0 s0 n μ (pc + 3) L (.inl (μ a 5) :: st)) : Wa G Y Z c0 s0 n μ pc L (.inr a :: st) :=
  a_getf (k := 5) cf_6 hd (by decide) rfl (by rw [hY]; exact lf_X6_110) ho (fun _ => w)
theorem p_X6_110 {G : GT} {Y : MD} {Z : ZT} {c0 s0 n pc : Nat} {μ : Mem} {L : List (Nat × AV)} {st : List AV} {a v : Int} (hY : Y.1.cls = RX6) (hd : decode Y.2.1 pc = .ok (.putfield 110, 3)) (ho : gx G n μ → 0 ≤ a ∧ a < n ∧ SH a = (6, 8)) (hx : gx G n μ → gx G n (up μ a 5 v)) (w : Wa G Y Z c0 s0 n (up μ a 5 v) (pc + 3) L st) : Wa G Y Z c0 s0 n μ pc L (.inl v :: .inr a :: st) :=
  a_putf (k := 5) cf_6 hd (by decide) rfl rfl (sm_6 5 (by decide)) (by rw [hY]; exact lf_X6_110) ho (fun h => h) hx w
theorem lf_X6_113 : Cond.fieldLink RX6 113 RX6 "size" "I" ∈ gT := gT_mem (i := 212) (by decide +kernel) (by decide +kernel)
theorem g_X6_113 {G : GT} {Y : MD} {Z : ZT} {c0 s0 n pc : Nat} {μ : Mem} {L : List (Nat × AV)} {st : List AV} {a : Int} (hY : Y.1.cls = RX6) (hd : decode Y.2.1 pc = .ok (.getfield 113, 3)) (ho : gx G n μ → 0 ≤ a ∧ a < n ∧ SH a = (6, 8)) (w : Wa G Y Z c0 s0 n μ (pc + 3) L (.inl (μ a 6) :: st)) : Wa G Y Z c0 s0 n μ pc L (.inr a :: st) :=
  a_getf (k := 6) cf_6 hd (by decide) rfl (by rw [hY]; exact lf_X6_113) ho (fun _ => w)
theorem p_X6_113 {G : GT} {Y : MD} {Z : ZT} {c0 s0 n pc : Nat} {μ : Mem} {L : List (Nat × AV)} {st : List AV} {a v : Int} (hY : Y.1.cls = RX6) (hd : decode Y.2.1 pc = .ok (.putfield 113, 3)) (ho : gx G n μ → 0 ≤ a ∧ a < n ∧ SH a = (6, 8)) (hx : gx G n μ → gx G n (up μ a 6 v)) (w : Wa G Y Z c0 s0 n (up μ a 6 v) (pc + 3) L st) : Wa G Y Z c0 s0 n μ pc L (.inl v :: .inr a :: st) :=
  a_putf (k := 6) cf_6 hd (by decide) rfl rfl (sm_6 6 (by decide)) (by rw [hY]; exact lf_X6_113) ho (fun h => h) hx w
theorem lf_X6_116 : Cond.fieldLink RX6 116 RX6 "without" "I" ∈ gT := gT_mem (i := 213) (by decide +kernel) (by decide +kernel)
theorem g_X6_116 {G : GT} {Y : MD} {Z : ZT} {c0 s0 n pc : Nat} {μ : Mem} {L : List (Nat × AV)} {st : List AV} {a : Int} (hY : Y.1.cls = RX6) (hd : decode Y.2.1 pc = .ok (.getfield 116, 3)) (ho : gx G n μ → 0 ≤ a ∧ a < n ∧ SH a = (6, 8)) (w : Wa G Y Z c0 s0 n μ (pc + 3) L (.inl (μ a 7) :: st)) : Wa G Y Z c0 s0 n μ pc L (.inr a :: st) :=
  a_getf (k := 7) cf_6 hd (by decide) rfl (by rw [hY]; exact lf_X6_116) ho (fun _ => w)
theorem p_X6_116 {G : GT} {Y : MD} {Z : ZT} {c0 s0 n pc : Nat} {μ : Mem} {L : List (Nat × AV)} {st : List AV} {a v : Int} (hY : Y.1.cls = RX6) (hd : decode Y.2.1 pc = .ok (.putfield 116, 3)) (ho : gx G n μ → 0 ≤ a ∧ a < n ∧ SH a = (6, 8)) (hx : gx G n μ → gx G n (up μ a 7 v)) (w : Wa G Y Z c0 s0 n (up μ a 7 v) (pc + 3) L st) : Wa G Y Z c0 s0 n μ pc L (.inl v :: .inr a :: st) :=
  a_putf (k := 7) cf_6 hd (by decide) rfl rfl (sm_6 7 (by decide)) (by rw [hY]; exact lf_X6_116) ho (fun h => h) hx w
theorem lf_X6_123 : Cond.fieldLinkNest RX6 123 RX1 "from" "I" "ContactWays" ∈ gN := gN_mem (i := 118) (by decide +kernel) (by decide +kernel)
theorem g_X6_123 {G : GT} {Y : MD} {Z : ZT} {c0 s0 n pc : Nat} {μ : Mem} {L : List (Nat × AV)} {st : List AV} {a : Int} (hY : Y.1.cls = RX6) (hd : decode Y.2.1 pc = .ok (.getfield 123, 3)) (ho : gx G n μ → 0 ≤ a ∧ a < n ∧ SH a = (1, 6)) (w : Wa G Y Z c0 s0 n μ (pc + 3) L (.inl (μ a 0) :: st)) : Wa G Y Z c0 s0 n μ pc L (.inr a :: st) :=
  a_getfN (k := 0) cf_1 hd (by decide) rfl (by rw [hY]; exact lf_X6_123) ho (fun _ => w)
theorem lf_X6_126 : Cond.fieldLinkNest RX6 126 RX1 "to" "I" "ContactWays" ∈ gN := gN_mem (i := 121) (by decide +kernel) (by decide +kernel)
theorem g_X6_126 {G : GT} {Y : MD} {Z : ZT} {c0 s0 n pc : Nat} {μ : Mem} {L : List (Nat × AV)} {st : List AV} {a : Int} (hY : Y.1.cls = RX6) (hd : decode Y.2.1 pc = .ok (.getfield 126, 3)) (ho : gx G n μ → 0 ≤ a ∧ a < n ∧ SH a = (1, 6)) (w : Wa G Y Z c0 s0 n μ (pc + 3) L (.inl (μ a 1) :: st)) : Wa G Y Z c0 s0 n μ pc L (.inr a :: st) :=
  a_getfN (k := 1) cf_1 hd (by decide) rfl (by rw [hY]; exact lf_X6_126) ho (fun _ => w)
theorem lf_X6_137 : Cond.fieldLinkNest RX6 137 RX1 "light" "I" "ContactWays" ∈ gN := gN_mem (i := 128) (by decide +kernel) (by decide +kernel)
theorem g_X6_137 {G : GT} {Y : MD} {Z : ZT} {c0 s0 n pc : Nat} {μ : Mem} {L : List (Nat × AV)} {st : List AV} {a : Int} (hY : Y.1.cls = RX6) (hd : decode Y.2.1 pc = .ok (.getfield 137, 3)) (ho : gx G n μ → 0 ≤ a ∧ a < n ∧ SH a = (1, 6)) (w : Wa G Y Z c0 s0 n μ (pc + 3) L (.inl (μ a 5) :: st)) : Wa G Y Z c0 s0 n μ pc L (.inr a :: st) :=
  a_getfN (k := 5) cf_1 hd (by decide) rfl (by rw [hY]; exact lf_X6_137) ho (fun _ => w)
theorem lf_X7_14 : Cond.fieldLink RX7 14 RX7 "nobody" "LContactWays$Bundle;" ∈ gT := gT_mem (i := 293) (by decide +kernel) (by decide +kernel)
theorem g_X7_14 {G : GT} {Y : MD} {Z : ZT} {c0 s0 n pc : Nat} {μ : Mem} {L : List (Nat × AV)} {st : List AV} {a : Int} (hY : Y.1.cls = RX7) (hd : decode Y.2.1 pc = .ok (.getfield 14, 3)) (ho : gx G n μ → 0 ≤ a ∧ a < n ∧ SH a = (7, 5)) (w : Wa G Y Z c0 s0 n μ (pc + 3) L (.inr (μ a 0) :: st)) : Wa G Y Z c0 s0 n μ pc L (.inr a :: st) :=
  a_getf (k := 0) cf_7 hd (by decide) rfl (by rw [hY]; exact lf_X7_14) ho (fun _ => w)
theorem gs_X7_14 {G : GT} {Y : MD} {Z : ZT} {c0 s0 n pc : Nat} {μ : Mem} {L : List (Nat × AV)} {st : List AV} {a : Int} (hY : Y.1.cls = RX7) (hd : decode Y.2.1 pc = .ok (.getfield 14, 3)) (hg : gx G = FX) (hs : St a 7 5) (w : Wa G Y Z c0 s0 n μ (pc + 3) L (.inr (a + 1) :: st)) : Wa G Y Z c0 s0 n μ pc L (.inr a :: st) :=
  a_fx (fun f => g_X7_14 hY hd (St_ho hg hs) (by rw [hg] at f; rw [fx_7_0 f hs]; exact w))
theorem p_X7_14 {G : GT} {Y : MD} {Z : ZT} {c0 s0 n pc : Nat} {μ : Mem} {L : List (Nat × AV)} {st : List AV} {a v : Int} (hY : Y.1.cls = RX7) (hi : Y.1.name = "<init>") (hd : decode Y.2.1 pc = .ok (.putfield 14, 3)) (ho : gx G n μ → 0 ≤ a ∧ a < n ∧ SH a = (7, 5)) (hx : gx G n μ → gx G n (up μ a 0 v)) (w : Wa G Y Z c0 s0 n (up μ a 0 v) (pc + 3) L st) : Wa G Y Z c0 s0 n μ pc L (.inr v :: .inr a :: st) :=
  a_putF (k := 0) cf_7 hd (by decide) rfl hY.symm hi rfl (sm_7 0 (by decide)) (by rw [hY]; exact lf_X7_14) ho (fun _ => trivial) hx w
theorem lf_X7_20 : Cond.fieldLink RX7 20 RX7 "bundles" "[LContactWays$Bundle;" ∈ gT := gT_mem (i := 294) (by decide +kernel) (by decide +kernel)
theorem g_X7_20 {G : GT} {Y : MD} {Z : ZT} {c0 s0 n pc : Nat} {μ : Mem} {L : List (Nat × AV)} {st : List AV} {a : Int} (hY : Y.1.cls = RX7) (hd : decode Y.2.1 pc = .ok (.getfield 20, 3)) (ho : gx G n μ → 0 ≤ a ∧ a < n ∧ SH a = (7, 5)) (w : Wa G Y Z c0 s0 n μ (pc + 3) L (.inr (μ a 1) :: st)) : Wa G Y Z c0 s0 n μ pc L (.inr a :: st) :=
  a_getf (k := 1) cf_7 hd (by decide) rfl (by rw [hY]; exact lf_X7_20) ho (fun _ => w)
theorem gs_X7_20 {G : GT} {Y : MD} {Z : ZT} {c0 s0 n pc : Nat} {μ : Mem} {L : List (Nat × AV)} {st : List AV} {a : Int} (hY : Y.1.cls = RX7) (hd : decode Y.2.1 pc = .ok (.getfield 20, 3)) (hg : gx G = FX) (hs : St a 7 5) (w : Wa G Y Z c0 s0 n μ (pc + 3) L (.inr (a + 4) :: st)) : Wa G Y Z c0 s0 n μ pc L (.inr a :: st) :=
  a_fx (fun f => g_X7_20 hY hd (St_ho hg hs) (by rw [hg] at f; rw [fx_7_1 f hs]; exact w))
theorem p_X7_20 {G : GT} {Y : MD} {Z : ZT} {c0 s0 n pc : Nat} {μ : Mem} {L : List (Nat × AV)} {st : List AV} {a v : Int} (hY : Y.1.cls = RX7) (hi : Y.1.name = "<init>") (hd : decode Y.2.1 pc = .ok (.putfield 20, 3)) (ho : gx G n μ → 0 ≤ a ∧ a < n ∧ SH a = (7, 5)) (hx : gx G n μ → gx G n (up μ a 1 v)) (w : Wa G Y Z c0 s0 n (up μ a 1 v) (pc + 3) L st) : Wa G Y Z c0 s0 n μ pc L (.inr v :: .inr a :: st) :=
  a_putF (k := 1) cf_7 hd (by decide) rfl hY.symm hi rfl (sm_7 1 (by decide)) (by rw [hY]; exact lf_X7_20) ho (fun _ => trivial) hx w
theorem lf_X7_24 : Cond.fieldLink RX7 24 RX7 "bundleCount" "I" ∈ gT := gT_mem (i := 295) (by decide +kernel) (by decide +kernel)
theorem g_X7_24 {G : GT} {Y : MD} {Z : ZT} {c0 s0 n pc : Nat} {μ : Mem} {L : List (Nat × AV)} {st : List AV} {a : Int} (hY : Y.1.cls = RX7) (hd : decode Y.2.1 pc = .ok (.getfield 24, 3)) (ho : gx G n μ → 0 ≤ a ∧ a < n ∧ SH a = (7, 5)) (w : Wa G Y Z c0 s0 n μ (pc + 3) L (.inl (μ a 2) :: st)) : Wa G Y Z c0 s0 n μ pc L (.inr a :: st) :=
  a_getf (k := 2) cf_7 hd (by decide) rfl (by rw [hY]; exact lf_X7_24) ho (fun _ => w)
theorem p_X7_24 {G : GT} {Y : MD} {Z : ZT} {c0 s0 n pc : Nat} {μ : Mem} {L : List (Nat × AV)} {st : List AV} {a v : Int} (hY : Y.1.cls = RX7) (hd : decode Y.2.1 pc = .ok (.putfield 24, 3)) (ho : gx G n μ → 0 ≤ a ∧ a < n ∧ SH a = (7, 5)) (hx : gx G n μ → gx G n (up μ a 2 v)) (w : Wa G Y Z c0 s0 n (up μ a 2 v) (pc + 3) L st) : Wa G Y Z c0 s0 n μ pc L (.inl v :: .inr a :: st) :=
  a_putf (k := 2) cf_7 hd (by decide) rfl rfl (sm_7 2 (by decide)) (by rw [hY]; exact lf_X7_24) ho (fun h => h) hx w
theorem lf_X7_28 : Cond.fieldLink RX7 28 RX7 "now" "I" ∈ gT := gT_mem (i := 299) (by decide +kernel) (by decide +kernel)
theorem g_X7_28 {G : GT} {Y : MD} {Z : ZT} {c0 s0 n pc : Nat} {μ : Mem} {L : List (Nat × AV)} {st : List AV} {a : Int} (hY : Y.1.cls = RX7) (hd : decode Y.2.1 pc = .ok (.getfield 28, 3)) (ho : gx G n μ → 0 ≤ a ∧ a < n ∧ SH a = (7, 5)) (w : Wa G Y Z c0 s0 n μ (pc + 3) L (.inl (μ a 3) :: st)) : Wa G Y Z c0 s0 n μ pc L (.inr a :: st) :=
  a_getf (k := 3) cf_7 hd (by decide) rfl (by rw [hY]; exact lf_X7_28) ho (fun _ => w)
theorem p_X7_28 {G : GT} {Y : MD} {Z : ZT} {c0 s0 n pc : Nat} {μ : Mem} {L : List (Nat × AV)} {st : List AV} {a v : Int} (hY : Y.1.cls = RX7) (hd : decode Y.2.1 pc = .ok (.putfield 28, 3)) (ho : gx G n μ → 0 ≤ a ∧ a < n ∧ SH a = (7, 5)) (hx : gx G n μ → gx G n (up μ a 3 v)) (w : Wa G Y Z c0 s0 n (up μ a 3 v) (pc + 3) L st) : Wa G Y Z c0 s0 n μ pc L (.inl v :: .inr a :: st) :=
  a_putf (k := 3) cf_7 hd (by decide) rfl rfl (sm_7 3 (by decide)) (by rw [hY]; exact lf_X7_28) ho (fun h => h) hx w
theorem lf_X7_31 : Cond.fieldLink RX7 31 RX7 "missed" "I" ∈ gT := gT_mem (i := 303) (by decide +kernel) (by decide +kernel)
theorem g_X7_31 {G : GT} {Y : MD} {Z : ZT} {c0 s0 n pc : Nat} {μ : Mem} {L : List (Nat × AV)} {st : List AV} {a : Int} (hY : Y.1.cls = RX7) (hd : decode Y.2.1 pc = .ok (.getfield 31, 3)) (ho : gx G n μ → 0 ≤ a ∧ a < n ∧ SH a = (7, 5)) (w : Wa G Y Z c0 s0 n μ (pc + 3) L (.inl (μ a 4) :: st)) : Wa G Y Z c0 s0 n μ pc L (.inr a :: st) :=
  a_getf (k := 4) cf_7 hd (by decide) rfl (by rw [hY]; exact lf_X7_31) ho (fun _ => w)
theorem p_X7_31 {G : GT} {Y : MD} {Z : ZT} {c0 s0 n pc : Nat} {μ : Mem} {L : List (Nat × AV)} {st : List AV} {a v : Int} (hY : Y.1.cls = RX7) (hd : decode Y.2.1 pc = .ok (.putfield 31, 3)) (ho : gx G n μ → 0 ≤ a ∧ a < n ∧ SH a = (7, 5)) (hx : gx G n μ → gx G n (up μ a 4 v)) (w : Wa G Y Z c0 s0 n (up μ a 4 v) (pc + 3) L st) : Wa G Y Z c0 s0 n μ pc L (.inl v :: .inr a :: st) :=
  a_putf (k := 4) cf_7 hd (by decide) rfl rfl (sm_7 4 (by decide)) (by rw [hY]; exact lf_X7_31) ho (fun h => h) hx w
theorem lf_X8_9 : Cond.fieldLink RX8 9 RX8 "columns" "I" ∈ gT := gT_mem (i := 191) (by decide +kernel) (by decide +kernel)
theorem g_X8_9 {G : GT} {Y : MD} {Z : ZT} {c0 s0 n pc : Nat} {μ : Mem} {L : List (Nat × AV)} {st : List AV} {a : Int} (hY : Y.1.cls = RX8) (hd : decode Y.2.1 pc = .ok (.getfield 9, 3)) (ho : gx G n μ → 0 ≤ a ∧ a < n ∧ SH a = (8, 3)) (w : Wa G Y Z c0 s0 n μ (pc + 3) L (.inl (μ a 0) :: st)) : Wa G Y Z c0 s0 n μ pc L (.inr a :: st) :=
  a_getf (k := 0) cf_8 hd (by decide) rfl (by rw [hY]; exact lf_X8_9) ho (fun _ => w)
theorem gs_X8_9 {G : GT} {Y : MD} {Z : ZT} {c0 s0 n pc : Nat} {μ : Mem} {L : List (Nat × AV)} {st : List AV} {a : Int} (hY : Y.1.cls = RX8) (hd : decode Y.2.1 pc = .ok (.getfield 9, 3)) (hg : gx G = FX) (hs : St a 8 3) (w : Wa G Y Z c0 s0 n μ (pc + 3) L (.inl (colsOf (SH (a + 1)).2) :: st)) : Wa G Y Z c0 s0 n μ pc L (.inr a :: st) :=
  a_fx (fun f => g_X8_9 hY hd (St_ho hg hs) (by rw [hg] at f; rw [fx_8_0 f hs]; exact w))
theorem p_X8_9 {G : GT} {Y : MD} {Z : ZT} {c0 s0 n pc : Nat} {μ : Mem} {L : List (Nat × AV)} {st : List AV} {a v : Int} (hY : Y.1.cls = RX8) (hi : Y.1.name = "<init>") (hd : decode Y.2.1 pc = .ok (.putfield 9, 3)) (ho : gx G n μ → 0 ≤ a ∧ a < n ∧ SH a = (8, 3)) (hx : gx G n μ → gx G n (up μ a 0 v)) (w : Wa G Y Z c0 s0 n (up μ a 0 v) (pc + 3) L st) : Wa G Y Z c0 s0 n μ pc L (.inl v :: .inr a :: st) :=
  a_putF (k := 0) cf_8 hd (by decide) rfl hY.symm hi rfl (sm_8 0 (by decide)) (by rw [hY]; exact lf_X8_9) ho (fun h => h) hx w
theorem lf_X8_21 : Cond.fieldLink RX8 21 RX8 "cells" "[I" ∈ gT := gT_mem (i := 192) (by decide +kernel) (by decide +kernel)
theorem g_X8_21 {G : GT} {Y : MD} {Z : ZT} {c0 s0 n pc : Nat} {μ : Mem} {L : List (Nat × AV)} {st : List AV} {a : Int} (hY : Y.1.cls = RX8) (hd : decode Y.2.1 pc = .ok (.getfield 21, 3)) (ho : gx G n μ → 0 ≤ a ∧ a < n ∧ SH a = (8, 3)) (w : Wa G Y Z c0 s0 n μ (pc + 3) L (.inr (μ a 1) :: st)) : Wa G Y Z c0 s0 n μ pc L (.inr a :: st) :=
  a_getf (k := 1) cf_8 hd (by decide) rfl (by rw [hY]; exact lf_X8_21) ho (fun _ => w)
theorem gs_X8_21 {G : GT} {Y : MD} {Z : ZT} {c0 s0 n pc : Nat} {μ : Mem} {L : List (Nat × AV)} {st : List AV} {a : Int} (hY : Y.1.cls = RX8) (hd : decode Y.2.1 pc = .ok (.getfield 21, 3)) (hg : gx G = FX) (hs : St a 8 3) (w : Wa G Y Z c0 s0 n μ (pc + 3) L (.inr (a + 1) :: st)) : Wa G Y Z c0 s0 n μ pc L (.inr a :: st) :=
  a_fx (fun f => g_X8_21 hY hd (St_ho hg hs) (by rw [hg] at f; rw [fx_8_1 f hs]; exact w))
theorem p_X8_21 {G : GT} {Y : MD} {Z : ZT} {c0 s0 n pc : Nat} {μ : Mem} {L : List (Nat × AV)} {st : List AV} {a v : Int} (hY : Y.1.cls = RX8) (hi : Y.1.name = "<init>") (hd : decode Y.2.1 pc = .ok (.putfield 21, 3)) (ho : gx G n μ → 0 ≤ a ∧ a < n ∧ SH a = (8, 3)) (hx : gx G n μ → gx G n (up μ a 1 v)) (w : Wa G Y Z c0 s0 n (up μ a 1 v) (pc + 3) L st) : Wa G Y Z c0 s0 n μ pc L (.inr v :: .inr a :: st) :=
  a_putF (k := 1) cf_8 hd (by decide) rfl hY.symm hi rfl (sm_8 1 (by decide)) (by rw [hY]; exact lf_X8_21) ho (fun _ => trivial) hx w
theorem lf_X8_25 : Cond.fieldLink RX8 25 RX8 "rows" "I" ∈ gT := gT_mem (i := 193) (by decide +kernel) (by decide +kernel)
theorem g_X8_25 {G : GT} {Y : MD} {Z : ZT} {c0 s0 n pc : Nat} {μ : Mem} {L : List (Nat × AV)} {st : List AV} {a : Int} (hY : Y.1.cls = RX8) (hd : decode Y.2.1 pc = .ok (.getfield 25, 3)) (ho : gx G n μ → 0 ≤ a ∧ a < n ∧ SH a = (8, 3)) (w : Wa G Y Z c0 s0 n μ (pc + 3) L (.inl (μ a 2) :: st)) : Wa G Y Z c0 s0 n μ pc L (.inr a :: st) :=
  a_getf (k := 2) cf_8 hd (by decide) rfl (by rw [hY]; exact lf_X8_25) ho (fun _ => w)
theorem p_X8_25 {G : GT} {Y : MD} {Z : ZT} {c0 s0 n pc : Nat} {μ : Mem} {L : List (Nat × AV)} {st : List AV} {a v : Int} (hY : Y.1.cls = RX8) (hd : decode Y.2.1 pc = .ok (.putfield 25, 3)) (ho : gx G n μ → 0 ≤ a ∧ a < n ∧ SH a = (8, 3)) (hx : gx G n μ → gx G n (up μ a 2 v)) (w : Wa G Y Z c0 s0 n (up μ a 2 v) (pc + 3) L st) : Wa G Y Z c0 s0 n μ pc L (.inl v :: .inr a :: st) :=
  a_putf (k := 2) cf_8 hd (by decide) rfl rfl (sm_8 2 (by decide)) (by rw [hY]; exact lf_X8_25) ho (fun h => h) hx w
theorem lf_X9_9 : Cond.fieldLink RX9 9 RX9 "bytes" "[I" ∈ gT := gT_mem (i := 89) (by decide +kernel) (by decide +kernel)
theorem g_X9_9 {G : GT} {Y : MD} {Z : ZT} {c0 s0 n pc : Nat} {μ : Mem} {L : List (Nat × AV)} {st : List AV} {a : Int} (hY : Y.1.cls = RX9) (hd : decode Y.2.1 pc = .ok (.getfield 9, 3)) (ho : gx G n μ → 0 ≤ a ∧ a < n ∧ SH a = (9, 2)) (w : Wa G Y Z c0 s0 n μ (pc + 3) L (.inr (μ a 0) :: st)) : Wa G Y Z c0 s0 n μ pc L (.inr a :: st) :=
  a_getf (k := 0) cf_9 hd (by decide) rfl (by rw [hY]; exact lf_X9_9) ho (fun _ => w)
theorem gs_X9_9 {G : GT} {Y : MD} {Z : ZT} {c0 s0 n pc : Nat} {μ : Mem} {L : List (Nat × AV)} {st : List AV} {a : Int} (hY : Y.1.cls = RX9) (hd : decode Y.2.1 pc = .ok (.getfield 9, 3)) (hg : gx G = FX) (hs : St a 9 2) (w : Wa G Y Z c0 s0 n μ (pc + 3) L (.inr (a + 1) :: st)) : Wa G Y Z c0 s0 n μ pc L (.inr a :: st) :=
  a_fx (fun f => g_X9_9 hY hd (St_ho hg hs) (by rw [hg] at f; rw [fx_9_0 f hs]; exact w))
theorem p_X9_9 {G : GT} {Y : MD} {Z : ZT} {c0 s0 n pc : Nat} {μ : Mem} {L : List (Nat × AV)} {st : List AV} {a v : Int} (hY : Y.1.cls = RX9) (hi : Y.1.name = "<init>") (hd : decode Y.2.1 pc = .ok (.putfield 9, 3)) (ho : gx G n μ → 0 ≤ a ∧ a < n ∧ SH a = (9, 2)) (hx : gx G n μ → gx G n (up μ a 0 v)) (w : Wa G Y Z c0 s0 n (up μ a 0 v) (pc + 3) L st) : Wa G Y Z c0 s0 n μ pc L (.inr v :: .inr a :: st) :=
  a_putF (k := 0) cf_9 hd (by decide) rfl hY.symm hi rfl (sm_9 0 (by decide)) (by rw [hY]; exact lf_X9_9) ho (fun _ => trivial) hx w
theorem lf_X9_15 : Cond.fieldLink RX9 15 RX9 "length" "I" ∈ gT := gT_mem (i := 90) (by decide +kernel) (by decide +kernel)
theorem g_X9_15 {G : GT} {Y : MD} {Z : ZT} {c0 s0 n pc : Nat} {μ : Mem} {L : List (Nat × AV)} {st : List AV} {a : Int} (hY : Y.1.cls = RX9) (hd : decode Y.2.1 pc = .ok (.getfield 15, 3)) (ho : gx G n μ → 0 ≤ a ∧ a < n ∧ SH a = (9, 2)) (w : Wa G Y Z c0 s0 n μ (pc + 3) L (.inl (μ a 1) :: st)) : Wa G Y Z c0 s0 n μ pc L (.inr a :: st) :=
  a_getf (k := 1) cf_9 hd (by decide) rfl (by rw [hY]; exact lf_X9_15) ho (fun _ => w)
theorem p_X9_15 {G : GT} {Y : MD} {Z : ZT} {c0 s0 n pc : Nat} {μ : Mem} {L : List (Nat × AV)} {st : List AV} {a v : Int} (hY : Y.1.cls = RX9) (hd : decode Y.2.1 pc = .ok (.putfield 15, 3)) (ho : gx G n μ → 0 ≤ a ∧ a < n ∧ SH a = (9, 2)) (hx : gx G n μ → gx G n (up μ a 1 v)) (w : Wa G Y Z c0 s0 n (up μ a 1 v) (pc + 3) L st) : Wa G Y Z c0 s0 n μ pc L (.inl v :: .inr a :: st) :=
  a_putf (k := 1) cf_9 hd (by decide) rfl rfl (sm_9 1 (by decide)) (by rw [hY]; exact lf_X9_15) ho (fun h => h) hx w
theorem lf_X11_7 : Cond.fieldLink RX11 7 RX11 "of" "[I" ∈ gT := gT_mem (i := 832) (by decide +kernel) (by decide +kernel)
theorem g_X11_7 {G : GT} {Y : MD} {Z : ZT} {c0 s0 n pc : Nat} {μ : Mem} {L : List (Nat × AV)} {st : List AV} {a : Int} (hY : Y.1.cls = RX11) (hd : decode Y.2.1 pc = .ok (.getfield 7, 3)) (ho : gx G n μ → 0 ≤ a ∧ a < n ∧ SH a = (11, 28)) (w : Wa G Y Z c0 s0 n μ (pc + 3) L (.inr (μ a 3) :: st)) : Wa G Y Z c0 s0 n μ pc L (.inr a :: st) :=
  a_getf (k := 3) cf_11 hd (by decide) rfl (by rw [hY]; exact lf_X11_7) ho (fun _ => w)
theorem gs_X11_7 {G : GT} {Y : MD} {Z : ZT} {c0 s0 n pc : Nat} {μ : Mem} {L : List (Nat × AV)} {st : List AV} {a : Int} (hY : Y.1.cls = RX11) (hd : decode Y.2.1 pc = .ok (.getfield 7, 3)) (hg : gx G = FX) (hs : St a 11 28) (w : Wa G Y Z c0 s0 n μ (pc + 3) L (.inr (400) :: st)) : Wa G Y Z c0 s0 n μ pc L (.inr a :: st) :=
  a_fx (fun f => g_X11_7 hY hd (St_ho hg hs) (by rw [hg] at f; rw [fx_11_3 f hs]; exact w))
theorem p_X11_7 {G : GT} {Y : MD} {Z : ZT} {c0 s0 n pc : Nat} {μ : Mem} {L : List (Nat × AV)} {st : List AV} {a v : Int} (hY : Y.1.cls = RX11) (hi : Y.1.name = "<init>") (hd : decode Y.2.1 pc = .ok (.putfield 7, 3)) (ho : gx G n μ → 0 ≤ a ∧ a < n ∧ SH a = (11, 28)) (hx : gx G n μ → gx G n (up μ a 3 v)) (w : Wa G Y Z c0 s0 n (up μ a 3 v) (pc + 3) L st) : Wa G Y Z c0 s0 n μ pc L (.inr v :: .inr a :: st) :=
  a_putF (k := 3) cf_11 hd (by decide) rfl hY.symm hi rfl (sm_11 3 (by decide)) (by rw [hY]; exact lf_X11_7) ho (fun _ => trivial) hx w
theorem lf_X11_13 : Cond.fieldLink RX11 13 RX11 "read" "[I" ∈ gT := gT_mem (i := 835) (by decide +kernel) (by decide +kernel)
theorem g_X11_13 {G : GT} {Y : MD} {Z : ZT} {c0 s0 n pc : Nat} {μ : Mem} {L : List (Nat × AV)} {st : List AV} {a : Int} (hY : Y.1.cls = RX11) (hd : decode Y.2.1 pc = .ok (.getfield 13, 3)) (ho : gx G n μ → 0 ≤ a ∧ a < n ∧ SH a = (11, 28)) (w : Wa G Y Z c0 s0 n μ (pc + 3) L (.inr (μ a 6) :: st)) : Wa G Y Z c0 s0 n μ pc L (.inr a :: st) :=
  a_getf (k := 6) cf_11 hd (by decide) rfl (by rw [hY]; exact lf_X11_13) ho (fun _ => w)
theorem gs_X11_13 {G : GT} {Y : MD} {Z : ZT} {c0 s0 n pc : Nat} {μ : Mem} {L : List (Nat × AV)} {st : List AV} {a : Int} (hY : Y.1.cls = RX11) (hd : decode Y.2.1 pc = .ok (.getfield 13, 3)) (hg : gx G = FX) (hs : St a 11 28) (w : Wa G Y Z c0 s0 n μ (pc + 3) L (.inr (401) :: st)) : Wa G Y Z c0 s0 n μ pc L (.inr a :: st) :=
  a_fx (fun f => g_X11_13 hY hd (St_ho hg hs) (by rw [hg] at f; rw [fx_11_6 f hs]; exact w))
theorem p_X11_13 {G : GT} {Y : MD} {Z : ZT} {c0 s0 n pc : Nat} {μ : Mem} {L : List (Nat × AV)} {st : List AV} {a v : Int} (hY : Y.1.cls = RX11) (hi : Y.1.name = "<init>") (hd : decode Y.2.1 pc = .ok (.putfield 13, 3)) (ho : gx G n μ → 0 ≤ a ∧ a < n ∧ SH a = (11, 28)) (hx : gx G n μ → gx G n (up μ a 6 v)) (w : Wa G Y Z c0 s0 n (up μ a 6 v) (pc + 3) L st) : Wa G Y Z c0 s0 n μ pc L (.inr v :: .inr a :: st) :=
  a_putF (k := 6) cf_11 hd (by decide) rfl hY.symm hi rfl (sm_11 6 (by decide)) (by rw [hY]; exact lf_X11_13) ho (fun _ => trivial) hx w
theorem lf_X11_16 : Cond.fieldLink RX11 16 RX11 "s" "[I" ∈ gT := gT_mem (i := 836) (by decide +kernel) (by decide +kernel)
theorem g_X11_16 {G : GT} {Y : MD} {Z : ZT} {c0 s0 n pc : Nat} {μ : Mem} {L : List (Nat × AV)} {st : List AV} {a : Int} (hY : Y.1.cls = RX11) (hd : decode Y.2.1 pc = .ok (.getfield 16, 3)) (ho : gx G n μ → 0 ≤ a ∧ a < n ∧ SH a = (11, 28)) (w : Wa G Y Z c0 s0 n μ (pc + 3) L (.inr (μ a 7) :: st)) : Wa G Y Z c0 s0 n μ pc L (.inr a :: st) :=
  a_getf (k := 7) cf_11 hd (by decide) rfl (by rw [hY]; exact lf_X11_16) ho (fun _ => w)
theorem gs_X11_16 {G : GT} {Y : MD} {Z : ZT} {c0 s0 n pc : Nat} {μ : Mem} {L : List (Nat × AV)} {st : List AV} {a : Int} (hY : Y.1.cls = RX11) (hd : decode Y.2.1 pc = .ok (.getfield 16, 3)) (hg : gx G = FX) (hs : St a 11 28) (w : Wa G Y Z c0 s0 n μ (pc + 3) L (.inr (402) :: st)) : Wa G Y Z c0 s0 n μ pc L (.inr a :: st) :=
  a_fx (fun f => g_X11_16 hY hd (St_ho hg hs) (by rw [hg] at f; rw [fx_11_7 f hs]; exact w))
theorem p_X11_16 {G : GT} {Y : MD} {Z : ZT} {c0 s0 n pc : Nat} {μ : Mem} {L : List (Nat × AV)} {st : List AV} {a v : Int} (hY : Y.1.cls = RX11) (hi : Y.1.name = "<init>") (hd : decode Y.2.1 pc = .ok (.putfield 16, 3)) (ho : gx G n μ → 0 ≤ a ∧ a < n ∧ SH a = (11, 28)) (hx : gx G n μ → gx G n (up μ a 7 v)) (w : Wa G Y Z c0 s0 n (up μ a 7 v) (pc + 3) L st) : Wa G Y Z c0 s0 n μ pc L (.inr v :: .inr a :: st) :=
  a_putF (k := 7) cf_11 hd (by decide) rfl hY.symm hi rfl (sm_11 7 (by decide)) (by rw [hY]; exact lf_X11_16) ho (fun _ => trivial) hx w
theorem lf_X11_19 : Cond.fieldLink RX11 19 RX11 "past" "[I" ∈ gT := gT_mem (i := 838) (by decide +kernel) (by decide +kernel)
theorem g_X11_19 {G : GT} {Y : MD} {Z : ZT} {c0 s0 n pc : Nat} {μ : Mem} {L : List (Nat × AV)} {st : List AV} {a : Int} (hY : Y.1.cls = RX11) (hd : decode Y.2.1 pc = .ok (.getfield 19, 3)) (ho : gx G n μ → 0 ≤ a ∧ a < n ∧ SH a = (11, 28)) (w : Wa G Y Z c0 s0 n μ (pc + 3) L (.inr (μ a 9) :: st)) : Wa G Y Z c0 s0 n μ pc L (.inr a :: st) :=
  a_getf (k := 9) cf_11 hd (by decide) rfl (by rw [hY]; exact lf_X11_19) ho (fun _ => w)
theorem gs_X11_19 {G : GT} {Y : MD} {Z : ZT} {c0 s0 n pc : Nat} {μ : Mem} {L : List (Nat × AV)} {st : List AV} {a : Int} (hY : Y.1.cls = RX11) (hd : decode Y.2.1 pc = .ok (.getfield 19, 3)) (hg : gx G = FX) (hs : St a 11 28) (w : Wa G Y Z c0 s0 n μ (pc + 3) L (.inr (403) :: st)) : Wa G Y Z c0 s0 n μ pc L (.inr a :: st) :=
  a_fx (fun f => g_X11_19 hY hd (St_ho hg hs) (by rw [hg] at f; rw [fx_11_9 f hs]; exact w))
theorem p_X11_19 {G : GT} {Y : MD} {Z : ZT} {c0 s0 n pc : Nat} {μ : Mem} {L : List (Nat × AV)} {st : List AV} {a v : Int} (hY : Y.1.cls = RX11) (hi : Y.1.name = "<init>") (hd : decode Y.2.1 pc = .ok (.putfield 19, 3)) (ho : gx G n μ → 0 ≤ a ∧ a < n ∧ SH a = (11, 28)) (hx : gx G n μ → gx G n (up μ a 9 v)) (w : Wa G Y Z c0 s0 n (up μ a 9 v) (pc + 3) L st) : Wa G Y Z c0 s0 n μ pc L (.inr v :: .inr a :: st) :=
  a_putF (k := 9) cf_11 hd (by decide) rfl hY.symm hi rfl (sm_11 9 (by decide)) (by rw [hY]; exact lf_X11_19) ho (fun _ => trivial) hx w
theorem lf_X11_22 : Cond.fieldLink RX11 22 RX11 "kept" "[I" ∈ gT := gT_mem (i := 839) (by decide +kernel) (by decide +kernel)
theorem g_X11_22 {G : GT} {Y : MD} {Z : ZT} {c0 s0 n pc : Nat} {μ : Mem} {L : List (Nat × AV)} {st : List AV} {a : Int} (hY : Y.1.cls = RX11) (hd : decode Y.2.1 pc = .ok (.getfield 22, 3)) (ho : gx G n μ → 0 ≤ a ∧ a < n ∧ SH a = (11, 28)) (w : Wa G Y Z c0 s0 n μ (pc + 3) L (.inr (μ a 10) :: st)) : Wa G Y Z c0 s0 n μ pc L (.inr a :: st) :=
  a_getf (k := 10) cf_11 hd (by decide) rfl (by rw [hY]; exact lf_X11_22) ho (fun _ => w)
theorem gs_X11_22 {G : GT} {Y : MD} {Z : ZT} {c0 s0 n pc : Nat} {μ : Mem} {L : List (Nat × AV)} {st : List AV} {a : Int} (hY : Y.1.cls = RX11) (hd : decode Y.2.1 pc = .ok (.getfield 22, 3)) (hg : gx G = FX) (hs : St a 11 28) (w : Wa G Y Z c0 s0 n μ (pc + 3) L (.inr (404) :: st)) : Wa G Y Z c0 s0 n μ pc L (.inr a :: st) :=
  a_fx (fun f => g_X11_22 hY hd (St_ho hg hs) (by rw [hg] at f; rw [fx_11_10 f hs]; exact w))
theorem p_X11_22 {G : GT} {Y : MD} {Z : ZT} {c0 s0 n pc : Nat} {μ : Mem} {L : List (Nat × AV)} {st : List AV} {a v : Int} (hY : Y.1.cls = RX11) (hi : Y.1.name = "<init>") (hd : decode Y.2.1 pc = .ok (.putfield 22, 3)) (ho : gx G n μ → 0 ≤ a ∧ a < n ∧ SH a = (11, 28)) (hx : gx G n μ → gx G n (up μ a 10 v)) (w : Wa G Y Z c0 s0 n (up μ a 10 v) (pc + 3) L st) : Wa G Y Z c0 s0 n μ pc L (.inr v :: .inr a :: st) :=
  a_putF (k := 10) cf_11 hd (by decide) rfl hY.symm hi rfl (sm_11 10 (by decide)) (by rw [hY]; exact lf_X11_22) ho (fun _ => trivial) hx w
theorem lf_X11_25 : Cond.fieldLink RX11 25 RX11 "isKept" "[Z" ∈ gT := gT_mem (i := 840) (by decide +kernel) (by decide +kernel)
theorem g_X11_25 {G : GT} {Y : MD} {Z : ZT} {c0 s0 n pc : Nat} {μ : Mem} {L : List (Nat × AV)} {st : List AV} {a : Int} (hY : Y.1.cls = RX11) (hd : decode Y.2.1 pc = .ok (.getfield 25, 3)) (ho : gx G n μ → 0 ≤ a ∧ a < n ∧ SH a = (11, 28)) (w : Wa G Y Z c0 s0 n μ (pc + 3) L (.inr (μ a 11) :: st)) : Wa G Y Z c0 s0 n μ pc L (.inr a :: st) :=
  a_getf (k := 11) cf_11 hd (by decide) rfl (by rw [hY]; exact lf_X11_25) ho (fun _ => w)
theorem gs_X11_25 {G : GT} {Y : MD} {Z : ZT} {c0 s0 n pc : Nat} {μ : Mem} {L : List (Nat × AV)} {st : List AV} {a : Int} (hY : Y.1.cls = RX11) (hd : decode Y.2.1 pc = .ok (.getfield 25, 3)) (hg : gx G = FX) (hs : St a 11 28) (w : Wa G Y Z c0 s0 n μ (pc + 3) L (.inr (405) :: st)) : Wa G Y Z c0 s0 n μ pc L (.inr a :: st) :=
  a_fx (fun f => g_X11_25 hY hd (St_ho hg hs) (by rw [hg] at f; rw [fx_11_11 f hs]; exact w))
theorem p_X11_25 {G : GT} {Y : MD} {Z : ZT} {c0 s0 n pc : Nat} {μ : Mem} {L : List (Nat × AV)} {st : List AV} {a v : Int} (hY : Y.1.cls = RX11) (hi : Y.1.name = "<init>") (hd : decode Y.2.1 pc = .ok (.putfield 25, 3)) (ho : gx G n μ → 0 ≤ a ∧ a < n ∧ SH a = (11, 28)) (hx : gx G n μ → gx G n (up μ a 11 v)) (w : Wa G Y Z c0 s0 n (up μ a 11 v) (pc + 3) L st) : Wa G Y Z c0 s0 n μ pc L (.inr v :: .inr a :: st) :=
  a_putF (k := 11) cf_11 hd (by decide) rfl hY.symm hi rfl (sm_11 11 (by decide)) (by rw [hY]; exact lf_X11_25) ho (fun _ => trivial) hx w
theorem lf_X11_29 : Cond.fieldLink RX11 29 RX11 "aside" "[I" ∈ gT := gT_mem (i := 841) (by decide +kernel) (by decide +kernel)
theorem g_X11_29 {G : GT} {Y : MD} {Z : ZT} {c0 s0 n pc : Nat} {μ : Mem} {L : List (Nat × AV)} {st : List AV} {a : Int} (hY : Y.1.cls = RX11) (hd : decode Y.2.1 pc = .ok (.getfield 29, 3)) (ho : gx G n μ → 0 ≤ a ∧ a < n ∧ SH a = (11, 28)) (w : Wa G Y Z c0 s0 n μ (pc + 3) L (.inr (μ a 12) :: st)) : Wa G Y Z c0 s0 n μ pc L (.inr a :: st) :=
  a_getf (k := 12) cf_11 hd (by decide) rfl (by rw [hY]; exact lf_X11_29) ho (fun _ => w)
theorem gs_X11_29 {G : GT} {Y : MD} {Z : ZT} {c0 s0 n pc : Nat} {μ : Mem} {L : List (Nat × AV)} {st : List AV} {a : Int} (hY : Y.1.cls = RX11) (hd : decode Y.2.1 pc = .ok (.getfield 29, 3)) (hg : gx G = FX) (hs : St a 11 28) (w : Wa G Y Z c0 s0 n μ (pc + 3) L (.inr (406) :: st)) : Wa G Y Z c0 s0 n μ pc L (.inr a :: st) :=
  a_fx (fun f => g_X11_29 hY hd (St_ho hg hs) (by rw [hg] at f; rw [fx_11_12 f hs]; exact w))
theorem p_X11_29 {G : GT} {Y : MD} {Z : ZT} {c0 s0 n pc : Nat} {μ : Mem} {L : List (Nat × AV)} {st : List AV} {a v : Int} (hY : Y.1.cls = RX11) (hi : Y.1.name = "<init>") (hd : decode Y.2.1 pc = .ok (.putfield 29, 3)) (ho : gx G n μ → 0 ≤ a ∧ a < n ∧ SH a = (11, 28)) (hx : gx G n μ → gx G n (up μ a 12 v)) (w : Wa G Y Z c0 s0 n (up μ a 12 v) (pc + 3) L st) : Wa G Y Z c0 s0 n μ pc L (.inr v :: .inr a :: st) :=
  a_putF (k := 12) cf_11 hd (by decide) rfl hY.symm hi rfl (sm_11 12 (by decide)) (by rw [hY]; exact lf_X11_29) ho (fun _ => trivial) hx w
theorem lf_X11_32 : Cond.fieldLink RX11 32 RX11 "seenNode" "[I" ∈ gT := gT_mem (i := 843) (by decide +kernel) (by decide +kernel)
theorem g_X11_32 {G : GT} {Y : MD} {Z : ZT} {c0 s0 n pc : Nat} {μ : Mem} {L : List (Nat × AV)} {st : List AV} {a : Int} (hY : Y.1.cls = RX11) (hd : decode Y.2.1 pc = .ok (.getfield 32, 3)) (ho : gx G n μ → 0 ≤ a ∧ a < n ∧ SH a = (11, 28)) (w : Wa G Y Z c0 s0 n μ (pc + 3) L (.inr (μ a 14) :: st)) : Wa G Y Z c0 s0 n μ pc L (.inr a :: st) :=
  a_getf (k := 14) cf_11 hd (by decide) rfl (by rw [hY]; exact lf_X11_32) ho (fun _ => w)
theorem gs_X11_32 {G : GT} {Y : MD} {Z : ZT} {c0 s0 n pc : Nat} {μ : Mem} {L : List (Nat × AV)} {st : List AV} {a : Int} (hY : Y.1.cls = RX11) (hd : decode Y.2.1 pc = .ok (.getfield 32, 3)) (hg : gx G = FX) (hs : St a 11 28) (w : Wa G Y Z c0 s0 n μ (pc + 3) L (.inr (407) :: st)) : Wa G Y Z c0 s0 n μ pc L (.inr a :: st) :=
  a_fx (fun f => g_X11_32 hY hd (St_ho hg hs) (by rw [hg] at f; rw [fx_11_14 f hs]; exact w))
theorem p_X11_32 {G : GT} {Y : MD} {Z : ZT} {c0 s0 n pc : Nat} {μ : Mem} {L : List (Nat × AV)} {st : List AV} {a v : Int} (hY : Y.1.cls = RX11) (hi : Y.1.name = "<init>") (hd : decode Y.2.1 pc = .ok (.putfield 32, 3)) (ho : gx G n μ → 0 ≤ a ∧ a < n ∧ SH a = (11, 28)) (hx : gx G n μ → gx G n (up μ a 14 v)) (w : Wa G Y Z c0 s0 n (up μ a 14 v) (pc + 3) L st) : Wa G Y Z c0 s0 n μ pc L (.inr v :: .inr a :: st) :=
  a_putF (k := 14) cf_11 hd (by decide) rfl hY.symm hi rfl (sm_11 14 (by decide)) (by rw [hY]; exact lf_X11_32) ho (fun _ => trivial) hx w
theorem lf_X11_35 : Cond.fieldLink RX11 35 RX11 "seenGoal" "[I" ∈ gT := gT_mem (i := 844) (by decide +kernel) (by decide +kernel)
theorem g_X11_35 {G : GT} {Y : MD} {Z : ZT} {c0 s0 n pc : Nat} {μ : Mem} {L : List (Nat × AV)} {st : List AV} {a : Int} (hY : Y.1.cls = RX11) (hd : decode Y.2.1 pc = .ok (.getfield 35, 3)) (ho : gx G n μ → 0 ≤ a ∧ a < n ∧ SH a = (11, 28)) (w : Wa G Y Z c0 s0 n μ (pc + 3) L (.inr (μ a 15) :: st)) : Wa G Y Z c0 s0 n μ pc L (.inr a :: st) :=
  a_getf (k := 15) cf_11 hd (by decide) rfl (by rw [hY]; exact lf_X11_35) ho (fun _ => w)
theorem gs_X11_35 {G : GT} {Y : MD} {Z : ZT} {c0 s0 n pc : Nat} {μ : Mem} {L : List (Nat × AV)} {st : List AV} {a : Int} (hY : Y.1.cls = RX11) (hd : decode Y.2.1 pc = .ok (.getfield 35, 3)) (hg : gx G = FX) (hs : St a 11 28) (w : Wa G Y Z c0 s0 n μ (pc + 3) L (.inr (408) :: st)) : Wa G Y Z c0 s0 n μ pc L (.inr a :: st) :=
  a_fx (fun f => g_X11_35 hY hd (St_ho hg hs) (by rw [hg] at f; rw [fx_11_15 f hs]; exact w))
theorem p_X11_35 {G : GT} {Y : MD} {Z : ZT} {c0 s0 n pc : Nat} {μ : Mem} {L : List (Nat × AV)} {st : List AV} {a v : Int} (hY : Y.1.cls = RX11) (hi : Y.1.name = "<init>") (hd : decode Y.2.1 pc = .ok (.putfield 35, 3)) (ho : gx G n μ → 0 ≤ a ∧ a < n ∧ SH a = (11, 28)) (hx : gx G n μ → gx G n (up μ a 15 v)) (w : Wa G Y Z c0 s0 n (up μ a 15 v) (pc + 3) L st) : Wa G Y Z c0 s0 n μ pc L (.inr v :: .inr a :: st) :=
  a_putF (k := 15) cf_11 hd (by decide) rfl hY.symm hi rfl (sm_11 15 (by decide)) (by rw [hY]; exact lf_X11_35) ho (fun _ => trivial) hx w
theorem lf_X11_38 : Cond.fieldLink RX11 38 RX11 "seenIs" "[I" ∈ gT := gT_mem (i := 845) (by decide +kernel) (by decide +kernel)
theorem g_X11_38 {G : GT} {Y : MD} {Z : ZT} {c0 s0 n pc : Nat} {μ : Mem} {L : List (Nat × AV)} {st : List AV} {a : Int} (hY : Y.1.cls = RX11) (hd : decode Y.2.1 pc = .ok (.getfield 38, 3)) (ho : gx G n μ → 0 ≤ a ∧ a < n ∧ SH a = (11, 28)) (w : Wa G Y Z c0 s0 n μ (pc + 3) L (.inr (μ a 16) :: st)) : Wa G Y Z c0 s0 n μ pc L (.inr a :: st) :=
  a_getf (k := 16) cf_11 hd (by decide) rfl (by rw [hY]; exact lf_X11_38) ho (fun _ => w)
theorem gs_X11_38 {G : GT} {Y : MD} {Z : ZT} {c0 s0 n pc : Nat} {μ : Mem} {L : List (Nat × AV)} {st : List AV} {a : Int} (hY : Y.1.cls = RX11) (hd : decode Y.2.1 pc = .ok (.getfield 38, 3)) (hg : gx G = FX) (hs : St a 11 28) (w : Wa G Y Z c0 s0 n μ (pc + 3) L (.inr (409) :: st)) : Wa G Y Z c0 s0 n μ pc L (.inr a :: st) :=
  a_fx (fun f => g_X11_38 hY hd (St_ho hg hs) (by rw [hg] at f; rw [fx_11_16 f hs]; exact w))
theorem p_X11_38 {G : GT} {Y : MD} {Z : ZT} {c0 s0 n pc : Nat} {μ : Mem} {L : List (Nat × AV)} {st : List AV} {a v : Int} (hY : Y.1.cls = RX11) (hi : Y.1.name = "<init>") (hd : decode Y.2.1 pc = .ok (.putfield 38, 3)) (ho : gx G n μ → 0 ≤ a ∧ a < n ∧ SH a = (11, 28)) (hx : gx G n μ → gx G n (up μ a 16 v)) (w : Wa G Y Z c0 s0 n (up μ a 16 v) (pc + 3) L st) : Wa G Y Z c0 s0 n μ pc L (.inr v :: .inr a :: st) :=
  a_putF (k := 16) cf_11 hd (by decide) rfl hY.symm hi rfl (sm_11 16 (by decide)) (by rw [hY]; exact lf_X11_38) ho (fun _ => trivial) hx w
theorem lf_X11_41 : Cond.fieldLink RX11 41 RX11 "text" "[I" ∈ gT := gT_mem (i := 847) (by decide +kernel) (by decide +kernel)
theorem g_X11_41 {G : GT} {Y : MD} {Z : ZT} {c0 s0 n pc : Nat} {μ : Mem} {L : List (Nat × AV)} {st : List AV} {a : Int} (hY : Y.1.cls = RX11) (hd : decode Y.2.1 pc = .ok (.getfield 41, 3)) (ho : gx G n μ → 0 ≤ a ∧ a < n ∧ SH a = (11, 28)) (w : Wa G Y Z c0 s0 n μ (pc + 3) L (.inr (μ a 18) :: st)) : Wa G Y Z c0 s0 n μ pc L (.inr a :: st) :=
  a_getf (k := 18) cf_11 hd (by decide) rfl (by rw [hY]; exact lf_X11_41) ho (fun _ => w)
theorem gs_X11_41 {G : GT} {Y : MD} {Z : ZT} {c0 s0 n pc : Nat} {μ : Mem} {L : List (Nat × AV)} {st : List AV} {a : Int} (hY : Y.1.cls = RX11) (hd : decode Y.2.1 pc = .ok (.getfield 41, 3)) (hg : gx G = FX) (hs : St a 11 28) (w : Wa G Y Z c0 s0 n μ (pc + 3) L (.inr (410) :: st)) : Wa G Y Z c0 s0 n μ pc L (.inr a :: st) :=
  a_fx (fun f => g_X11_41 hY hd (St_ho hg hs) (by rw [hg] at f; rw [fx_11_18 f hs]; exact w))
theorem p_X11_41 {G : GT} {Y : MD} {Z : ZT} {c0 s0 n pc : Nat} {μ : Mem} {L : List (Nat × AV)} {st : List AV} {a v : Int} (hY : Y.1.cls = RX11) (hi : Y.1.name = "<init>") (hd : decode Y.2.1 pc = .ok (.putfield 41, 3)) (ho : gx G n μ → 0 ≤ a ∧ a < n ∧ SH a = (11, 28)) (hx : gx G n μ → gx G n (up μ a 18 v)) (w : Wa G Y Z c0 s0 n (up μ a 18 v) (pc + 3) L st) : Wa G Y Z c0 s0 n μ pc L (.inr v :: .inr a :: st) :=
  a_putF (k := 18) cf_11 hd (by decide) rfl hY.symm hi rfl (sm_11 18 (by decide)) (by rw [hY]; exact lf_X11_41) ho (fun _ => trivial) hx w
theorem lf_X11_44 : Cond.fieldLink RX11 44 RX11 "taken" "[Z" ∈ gT := gT_mem (i := 851) (by decide +kernel) (by decide +kernel)
theorem g_X11_44 {G : GT} {Y : MD} {Z : ZT} {c0 s0 n pc : Nat} {μ : Mem} {L : List (Nat × AV)} {st : List AV} {a : Int} (hY : Y.1.cls = RX11) (hd : decode Y.2.1 pc = .ok (.getfield 44, 3)) (ho : gx G n μ → 0 ≤ a ∧ a < n ∧ SH a = (11, 28)) (w : Wa G Y Z c0 s0 n μ (pc + 3) L (.inr (μ a 22) :: st)) : Wa G Y Z c0 s0 n μ pc L (.inr a :: st) :=
  a_getf (k := 22) cf_11 hd (by decide) rfl (by rw [hY]; exact lf_X11_44) ho (fun _ => w)
theorem gs_X11_44 {G : GT} {Y : MD} {Z : ZT} {c0 s0 n pc : Nat} {μ : Mem} {L : List (Nat × AV)} {st : List AV} {a : Int} (hY : Y.1.cls = RX11) (hd : decode Y.2.1 pc = .ok (.getfield 44, 3)) (hg : gx G = FX) (hs : St a 11 28) (w : Wa G Y Z c0 s0 n μ (pc + 3) L (.inr (411) :: st)) : Wa G Y Z c0 s0 n μ pc L (.inr a :: st) :=
  a_fx (fun f => g_X11_44 hY hd (St_ho hg hs) (by rw [hg] at f; rw [fx_11_22 f hs]; exact w))
theorem p_X11_44 {G : GT} {Y : MD} {Z : ZT} {c0 s0 n pc : Nat} {μ : Mem} {L : List (Nat × AV)} {st : List AV} {a v : Int} (hY : Y.1.cls = RX11) (hi : Y.1.name = "<init>") (hd : decode Y.2.1 pc = .ok (.putfield 44, 3)) (ho : gx G n μ → 0 ≤ a ∧ a < n ∧ SH a = (11, 28)) (hx : gx G n μ → gx G n (up μ a 22 v)) (w : Wa G Y Z c0 s0 n (up μ a 22 v) (pc + 3) L st) : Wa G Y Z c0 s0 n μ pc L (.inr v :: .inr a :: st) :=
  a_putF (k := 22) cf_11 hd (by decide) rfl hY.symm hi rfl (sm_11 22 (by decide)) (by rw [hY]; exact lf_X11_44) ho (fun _ => trivial) hx w
theorem lf_X11_47 : Cond.fieldLink RX11 47 RX11 "first" "[I" ∈ gT := gT_mem (i := 852) (by decide +kernel) (by decide +kernel)
theorem g_X11_47 {G : GT} {Y : MD} {Z : ZT} {c0 s0 n pc : Nat} {μ : Mem} {L : List (Nat × AV)} {st : List AV} {a : Int} (hY : Y.1.cls = RX11) (hd : decode Y.2.1 pc = .ok (.getfield 47, 3)) (ho : gx G n μ → 0 ≤ a ∧ a < n ∧ SH a = (11, 28)) (w : Wa G Y Z c0 s0 n μ (pc + 3) L (.inr (μ a 23) :: st)) : Wa G Y Z c0 s0 n μ pc L (.inr a :: st) :=
  a_getf (k := 23) cf_11 hd (by decide) rfl (by rw [hY]; exact lf_X11_47) ho (fun _ => w)
theorem gs_X11_47 {G : GT} {Y : MD} {Z : ZT} {c0 s0 n pc : Nat} {μ : Mem} {L : List (Nat × AV)} {st : List AV} {a : Int} (hY : Y.1.cls = RX11) (hd : decode Y.2.1 pc = .ok (.getfield 47, 3)) (hg : gx G = FX) (hs : St a 11 28) (w : Wa G Y Z c0 s0 n μ (pc + 3) L (.inr (412) :: st)) : Wa G Y Z c0 s0 n μ pc L (.inr a :: st) :=
  a_fx (fun f => g_X11_47 hY hd (St_ho hg hs) (by rw [hg] at f; rw [fx_11_23 f hs]; exact w))
theorem p_X11_47 {G : GT} {Y : MD} {Z : ZT} {c0 s0 n pc : Nat} {μ : Mem} {L : List (Nat × AV)} {st : List AV} {a v : Int} (hY : Y.1.cls = RX11) (hi : Y.1.name = "<init>") (hd : decode Y.2.1 pc = .ok (.putfield 47, 3)) (ho : gx G n μ → 0 ≤ a ∧ a < n ∧ SH a = (11, 28)) (hx : gx G n μ → gx G n (up μ a 23 v)) (w : Wa G Y Z c0 s0 n (up μ a 23 v) (pc + 3) L st) : Wa G Y Z c0 s0 n μ pc L (.inr v :: .inr a :: st) :=
  a_putF (k := 23) cf_11 hd (by decide) rfl hY.symm hi rfl (sm_11 23 (by decide)) (by rw [hY]; exact lf_X11_47) ho (fun _ => trivial) hx w
theorem lf_X11_50 : Cond.fieldLink RX11 50 RX11 "wayContact" "[I" ∈ gT := gT_mem (i := 854) (by decide +kernel) (by decide +kernel)
theorem g_X11_50 {G : GT} {Y : MD} {Z : ZT} {c0 s0 n pc : Nat} {μ : Mem} {L : List (Nat × AV)} {st : List AV} {a : Int} (hY : Y.1.cls = RX11) (hd : decode Y.2.1 pc = .ok (.getfield 50, 3)) (ho : gx G n μ → 0 ≤ a ∧ a < n ∧ SH a = (11, 28)) (w : Wa G Y Z c0 s0 n μ (pc + 3) L (.inr (μ a 25) :: st)) : Wa G Y Z c0 s0 n μ pc L (.inr a :: st) :=
  a_getf (k := 25) cf_11 hd (by decide) rfl (by rw [hY]; exact lf_X11_50) ho (fun _ => w)
theorem gs_X11_50 {G : GT} {Y : MD} {Z : ZT} {c0 s0 n pc : Nat} {μ : Mem} {L : List (Nat × AV)} {st : List AV} {a : Int} (hY : Y.1.cls = RX11) (hd : decode Y.2.1 pc = .ok (.getfield 50, 3)) (hg : gx G = FX) (hs : St a 11 28) (w : Wa G Y Z c0 s0 n μ (pc + 3) L (.inr (413) :: st)) : Wa G Y Z c0 s0 n μ pc L (.inr a :: st) :=
  a_fx (fun f => g_X11_50 hY hd (St_ho hg hs) (by rw [hg] at f; rw [fx_11_25 f hs]; exact w))
theorem p_X11_50 {G : GT} {Y : MD} {Z : ZT} {c0 s0 n pc : Nat} {μ : Mem} {L : List (Nat × AV)} {st : List AV} {a v : Int} (hY : Y.1.cls = RX11) (hi : Y.1.name = "<init>") (hd : decode Y.2.1 pc = .ok (.putfield 50, 3)) (ho : gx G n μ → 0 ≤ a ∧ a < n ∧ SH a = (11, 28)) (hx : gx G n μ → gx G n (up μ a 25 v)) (w : Wa G Y Z c0 s0 n (up μ a 25 v) (pc + 3) L st) : Wa G Y Z c0 s0 n μ pc L (.inr v :: .inr a :: st) :=
  a_putF (k := 25) cf_11 hd (by decide) rfl hY.symm hi rfl (sm_11 25 (by decide)) (by rw [hY]; exact lf_X11_50) ho (fun _ => trivial) hx w
theorem lf_X11_53 : Cond.fieldLink RX11 53 RX11 "wayBegin" "[I" ∈ gT := gT_mem (i := 855) (by decide +kernel) (by decide +kernel)
theorem g_X11_53 {G : GT} {Y : MD} {Z : ZT} {c0 s0 n pc : Nat} {μ : Mem} {L : List (Nat × AV)} {st : List AV} {a : Int} (hY : Y.1.cls = RX11) (hd : decode Y.2.1 pc = .ok (.getfield 53, 3)) (ho : gx G n μ → 0 ≤ a ∧ a < n ∧ SH a = (11, 28)) (w : Wa G Y Z c0 s0 n μ (pc + 3) L (.inr (μ a 26) :: st)) : Wa G Y Z c0 s0 n μ pc L (.inr a :: st) :=
  a_getf (k := 26) cf_11 hd (by decide) rfl (by rw [hY]; exact lf_X11_53) ho (fun _ => w)
theorem gs_X11_53 {G : GT} {Y : MD} {Z : ZT} {c0 s0 n pc : Nat} {μ : Mem} {L : List (Nat × AV)} {st : List AV} {a : Int} (hY : Y.1.cls = RX11) (hd : decode Y.2.1 pc = .ok (.getfield 53, 3)) (hg : gx G = FX) (hs : St a 11 28) (w : Wa G Y Z c0 s0 n μ (pc + 3) L (.inr (414) :: st)) : Wa G Y Z c0 s0 n μ pc L (.inr a :: st) :=
  a_fx (fun f => g_X11_53 hY hd (St_ho hg hs) (by rw [hg] at f; rw [fx_11_26 f hs]; exact w))
theorem p_X11_53 {G : GT} {Y : MD} {Z : ZT} {c0 s0 n pc : Nat} {μ : Mem} {L : List (Nat × AV)} {st : List AV} {a v : Int} (hY : Y.1.cls = RX11) (hi : Y.1.name = "<init>") (hd : decode Y.2.1 pc = .ok (.putfield 53, 3)) (ho : gx G n μ → 0 ≤ a ∧ a < n ∧ SH a = (11, 28)) (hx : gx G n μ → gx G n (up μ a 26 v)) (w : Wa G Y Z c0 s0 n (up μ a 26 v) (pc + 3) L st) : Wa G Y Z c0 s0 n μ pc L (.inr v :: .inr a :: st) :=
  a_putF (k := 26) cf_11 hd (by decide) rfl hY.symm hi rfl (sm_11 26 (by decide)) (by rw [hY]; exact lf_X11_53) ho (fun _ => trivial) hx w
theorem lf_X11_62 : Cond.fieldLink RX11 62 RX11 "thrown" "I" ∈ gT := gT_mem (i := 829) (by decide +kernel) (by decide +kernel)
theorem p_X11_62 {G : GT} {Y : MD} {Z : ZT} {c0 s0 n pc : Nat} {μ : Mem} {L : List (Nat × AV)} {st : List AV} {a v : Int} (hY : Y.1.cls = RX11) (hd : decode Y.2.1 pc = .ok (.putfield 62, 3)) (ho : gx G n μ → 0 ≤ a ∧ a < n ∧ SH a = (11, 28)) (hx : gx G n μ → gx G n (up μ a 0 v)) (w : Wa G Y Z c0 s0 n (up μ a 0 v) (pc + 3) L st) : Wa G Y Z c0 s0 n μ pc L (.inl v :: .inr a :: st) :=
  a_putf (k := 0) cf_11 hd (by decide) rfl rfl (sm_11 0 (by decide)) (by rw [hY]; exact lf_X11_62) ho (fun h => h) hx w
theorem lf_X11_66 : Cond.fieldLink RX11 66 RX11 "nodes" "I" ∈ gT := gT_mem (i := 830) (by decide +kernel) (by decide +kernel)
theorem g_X11_66 {G : GT} {Y : MD} {Z : ZT} {c0 s0 n pc : Nat} {μ : Mem} {L : List (Nat × AV)} {st : List AV} {a : Int} (hY : Y.1.cls = RX11) (hd : decode Y.2.1 pc = .ok (.getfield 66, 3)) (ho : gx G n μ → 0 ≤ a ∧ a < n ∧ SH a = (11, 28)) (w : Wa G Y Z c0 s0 n μ (pc + 3) L (.inl (μ a 1) :: st)) : Wa G Y Z c0 s0 n μ pc L (.inr a :: st) :=
  a_getf (k := 1) cf_11 hd (by decide) rfl (by rw [hY]; exact lf_X11_66) ho (fun _ => w)
theorem p_X11_66 {G : GT} {Y : MD} {Z : ZT} {c0 s0 n pc : Nat} {μ : Mem} {L : List (Nat × AV)} {st : List AV} {a v : Int} (hY : Y.1.cls = RX11) (hd : decode Y.2.1 pc = .ok (.putfield 66, 3)) (ho : gx G n μ → 0 ≤ a ∧ a < n ∧ SH a = (11, 28)) (hx : gx G n μ → gx G n (up μ a 1 v)) (w : Wa G Y Z c0 s0 n (up μ a 1 v) (pc + 3) L st) : Wa G Y Z c0 s0 n μ pc L (.inl v :: .inr a :: st) :=
  a_putf (k := 1) cf_11 hd (by decide) rfl rfl (sm_11 1 (by decide)) (by rw [hY]; exact lf_X11_66) ho (fun h => h) hx w
theorem lf_X11_73 : Cond.fieldLink RX11 73 RX11 "contacts" "I" ∈ gT := gT_mem (i := 831) (by decide +kernel) (by decide +kernel)
theorem g_X11_73 {G : GT} {Y : MD} {Z : ZT} {c0 s0 n pc : Nat} {μ : Mem} {L : List (Nat × AV)} {st : List AV} {a : Int} (hY : Y.1.cls = RX11) (hd : decode Y.2.1 pc = .ok (.getfield 73, 3)) (ho : gx G n μ → 0 ≤ a ∧ a < n ∧ SH a = (11, 28)) (w : Wa G Y Z c0 s0 n μ (pc + 3) L (.inl (μ a 2) :: st)) : Wa G Y Z c0 s0 n μ pc L (.inr a :: st) :=
  a_getf (k := 2) cf_11 hd (by decide) rfl (by rw [hY]; exact lf_X11_73) ho (fun _ => w)
theorem p_X11_73 {G : GT} {Y : MD} {Z : ZT} {c0 s0 n pc : Nat} {μ : Mem} {L : List (Nat × AV)} {st : List AV} {a v : Int} (hY : Y.1.cls = RX11) (hd : decode Y.2.1 pc = .ok (.putfield 73, 3)) (ho : gx G n μ → 0 ≤ a ∧ a < n ∧ SH a = (11, 28)) (hx : gx G n μ → gx G n (up μ a 2 v)) (w : Wa G Y Z c0 s0 n (up μ a 2 v) (pc + 3) L st) : Wa G Y Z c0 s0 n μ pc L (.inl v :: .inr a :: st) :=
  a_putf (k := 2) cf_11 hd (by decide) rfl rfl (sm_11 2 (by decide)) (by rw [hY]; exact lf_X11_73) ho (fun h => h) hx w
theorem lf_X11_76 : Cond.fieldLink RX11 76 RX11 "letters" "I" ∈ gT := gT_mem (i := 846) (by decide +kernel) (by decide +kernel)
theorem g_X11_76 {G : GT} {Y : MD} {Z : ZT} {c0 s0 n pc : Nat} {μ : Mem} {L : List (Nat × AV)} {st : List AV} {a : Int} (hY : Y.1.cls = RX11) (hd : decode Y.2.1 pc = .ok (.getfield 76, 3)) (ho : gx G n μ → 0 ≤ a ∧ a < n ∧ SH a = (11, 28)) (w : Wa G Y Z c0 s0 n μ (pc + 3) L (.inl (μ a 17) :: st)) : Wa G Y Z c0 s0 n μ pc L (.inr a :: st) :=
  a_getf (k := 17) cf_11 hd (by decide) rfl (by rw [hY]; exact lf_X11_76) ho (fun _ => w)
theorem p_X11_76 {G : GT} {Y : MD} {Z : ZT} {c0 s0 n pc : Nat} {μ : Mem} {L : List (Nat × AV)} {st : List AV} {a v : Int} (hY : Y.1.cls = RX11) (hd : decode Y.2.1 pc = .ok (.putfield 76, 3)) (ho : gx G n μ → 0 ≤ a ∧ a < n ∧ SH a = (11, 28)) (hx : gx G n μ → gx G n (up μ a 17 v)) (w : Wa G Y Z c0 s0 n (up μ a 17 v) (pc + 3) L st) : Wa G Y Z c0 s0 n μ pc L (.inl v :: .inr a :: st) :=
  a_putf (k := 17) cf_11 hd (by decide) rfl rfl (sm_11 17 (by decide)) (by rw [hY]; exact lf_X11_76) ho (fun h => h) hx w
theorem lf_X11_79 : Cond.fieldLink RX11 79 RX11 "next" "I" ∈ gT := gT_mem (i := 848) (by decide +kernel) (by decide +kernel)
theorem g_X11_79 {G : GT} {Y : MD} {Z : ZT} {c0 s0 n pc : Nat} {μ : Mem} {L : List (Nat × AV)} {st : List AV} {a : Int} (hY : Y.1.cls = RX11) (hd : decode Y.2.1 pc = .ok (.getfield 79, 3)) (ho : gx G n μ → 0 ≤ a ∧ a < n ∧ SH a = (11, 28)) (w : Wa G Y Z c0 s0 n μ (pc + 3) L (.inl (μ a 19) :: st)) : Wa G Y Z c0 s0 n μ pc L (.inr a :: st) :=
  a_getf (k := 19) cf_11 hd (by decide) rfl (by rw [hY]; exact lf_X11_79) ho (fun _ => w)
theorem p_X11_79 {G : GT} {Y : MD} {Z : ZT} {c0 s0 n pc : Nat} {μ : Mem} {L : List (Nat × AV)} {st : List AV} {a v : Int} (hY : Y.1.cls = RX11) (hd : decode Y.2.1 pc = .ok (.putfield 79, 3)) (ho : gx G n μ → 0 ≤ a ∧ a < n ∧ SH a = (11, 28)) (hx : gx G n μ → gx G n (up μ a 19 v)) (w : Wa G Y Z c0 s0 n (up μ a 19 v) (pc + 3) L st) : Wa G Y Z c0 s0 n μ pc L (.inl v :: .inr a :: st) :=
  a_putf (k := 19) cf_11 hd (by decide) rfl rfl (sm_11 19 (by decide)) (by rw [hY]; exact lf_X11_79) ho (fun h => h) hx w
theorem lf_X11_82 : Cond.fieldLink RX11 82 RX11 "begin" "I" ∈ gT := gT_mem (i := 849) (by decide +kernel) (by decide +kernel)
theorem g_X11_82 {G : GT} {Y : MD} {Z : ZT} {c0 s0 n pc : Nat} {μ : Mem} {L : List (Nat × AV)} {st : List AV} {a : Int} (hY : Y.1.cls = RX11) (hd : decode Y.2.1 pc = .ok (.getfield 82, 3)) (ho : gx G n μ → 0 ≤ a ∧ a < n ∧ SH a = (11, 28)) (w : Wa G Y Z c0 s0 n μ (pc + 3) L (.inl (μ a 20) :: st)) : Wa G Y Z c0 s0 n μ pc L (.inr a :: st) :=
  a_getf (k := 20) cf_11 hd (by decide) rfl (by rw [hY]; exact lf_X11_82) ho (fun _ => w)
theorem p_X11_82 {G : GT} {Y : MD} {Z : ZT} {c0 s0 n pc : Nat} {μ : Mem} {L : List (Nat × AV)} {st : List AV} {a v : Int} (hY : Y.1.cls = RX11) (hd : decode Y.2.1 pc = .ok (.putfield 82, 3)) (ho : gx G n μ → 0 ≤ a ∧ a < n ∧ SH a = (11, 28)) (hx : gx G n μ → gx G n (up μ a 20 v)) (w : Wa G Y Z c0 s0 n (up μ a 20 v) (pc + 3) L st) : Wa G Y Z c0 s0 n μ pc L (.inl v :: .inr a :: st) :=
  a_putf (k := 20) cf_11 hd (by decide) rfl rfl (sm_11 20 (by decide)) (by rw [hY]; exact lf_X11_82) ho (fun h => h) hx w
theorem lf_X11_85 : Cond.fieldLink RX11 85 RX11 "token" "I" ∈ gT := gT_mem (i := 850) (by decide +kernel) (by decide +kernel)
theorem g_X11_85 {G : GT} {Y : MD} {Z : ZT} {c0 s0 n pc : Nat} {μ : Mem} {L : List (Nat × AV)} {st : List AV} {a : Int} (hY : Y.1.cls = RX11) (hd : decode Y.2.1 pc = .ok (.getfield 85, 3)) (ho : gx G n μ → 0 ≤ a ∧ a < n ∧ SH a = (11, 28)) (w : Wa G Y Z c0 s0 n μ (pc + 3) L (.inl (μ a 21) :: st)) : Wa G Y Z c0 s0 n μ pc L (.inr a :: st) :=
  a_getf (k := 21) cf_11 hd (by decide) rfl (by rw [hY]; exact lf_X11_85) ho (fun _ => w)
theorem p_X11_85 {G : GT} {Y : MD} {Z : ZT} {c0 s0 n pc : Nat} {μ : Mem} {L : List (Nat × AV)} {st : List AV} {a v : Int} (hY : Y.1.cls = RX11) (hd : decode Y.2.1 pc = .ok (.putfield 85, 3)) (ho : gx G n μ → 0 ≤ a ∧ a < n ∧ SH a = (11, 28)) (hx : gx G n μ → gx G n (up μ a 21 v)) (w : Wa G Y Z c0 s0 n (up μ a 21 v) (pc + 3) L st) : Wa G Y Z c0 s0 n μ pc L (.inl v :: .inr a :: st) :=
  a_putf (k := 21) cf_11 hd (by decide) rfl rfl (sm_11 21 (by decide)) (by rw [hY]; exact lf_X11_85) ho (fun h => h) hx w
theorem lf_X11_95 : Cond.fieldLink RX11 95 RX11 "readContacts" "I" ∈ gT := gT_mem (i := 834) (by decide +kernel) (by decide +kernel)
theorem g_X11_95 {G : GT} {Y : MD} {Z : ZT} {c0 s0 n pc : Nat} {μ : Mem} {L : List (Nat × AV)} {st : List AV} {a : Int} (hY : Y.1.cls = RX11) (hd : decode Y.2.1 pc = .ok (.getfield 95, 3)) (ho : gx G n μ → 0 ≤ a ∧ a < n ∧ SH a = (11, 28)) (w : Wa G Y Z c0 s0 n μ (pc + 3) L (.inl (μ a 5) :: st)) : Wa G Y Z c0 s0 n μ pc L (.inr a :: st) :=
  a_getf (k := 5) cf_11 hd (by decide) rfl (by rw [hY]; exact lf_X11_95) ho (fun _ => w)
theorem p_X11_95 {G : GT} {Y : MD} {Z : ZT} {c0 s0 n pc : Nat} {μ : Mem} {L : List (Nat × AV)} {st : List AV} {a v : Int} (hY : Y.1.cls = RX11) (hd : decode Y.2.1 pc = .ok (.putfield 95, 3)) (ho : gx G n μ → 0 ≤ a ∧ a < n ∧ SH a = (11, 28)) (hx : gx G n μ → gx G n (up μ a 5 v)) (w : Wa G Y Z c0 s0 n (up μ a 5 v) (pc + 3) L st) : Wa G Y Z c0 s0 n μ pc L (.inl v :: .inr a :: st) :=
  a_putf (k := 5) cf_11 hd (by decide) rfl rfl (sm_11 5 (by decide)) (by rw [hY]; exact lf_X11_95) ho (fun h => h) hx w
theorem lf_X11_98 : Cond.fieldLink RX11 98 RX11 "readNodes" "I" ∈ gT := gT_mem (i := 833) (by decide +kernel) (by decide +kernel)
theorem g_X11_98 {G : GT} {Y : MD} {Z : ZT} {c0 s0 n pc : Nat} {μ : Mem} {L : List (Nat × AV)} {st : List AV} {a : Int} (hY : Y.1.cls = RX11) (hd : decode Y.2.1 pc = .ok (.getfield 98, 3)) (ho : gx G n μ → 0 ≤ a ∧ a < n ∧ SH a = (11, 28)) (w : Wa G Y Z c0 s0 n μ (pc + 3) L (.inl (μ a 4) :: st)) : Wa G Y Z c0 s0 n μ pc L (.inr a :: st) :=
  a_getf (k := 4) cf_11 hd (by decide) rfl (by rw [hY]; exact lf_X11_98) ho (fun _ => w)
theorem p_X11_98 {G : GT} {Y : MD} {Z : ZT} {c0 s0 n pc : Nat} {μ : Mem} {L : List (Nat × AV)} {st : List AV} {a v : Int} (hY : Y.1.cls = RX11) (hd : decode Y.2.1 pc = .ok (.putfield 98, 3)) (ho : gx G n μ → 0 ≤ a ∧ a < n ∧ SH a = (11, 28)) (hx : gx G n μ → gx G n (up μ a 4 v)) (w : Wa G Y Z c0 s0 n (up μ a 4 v) (pc + 3) L st) : Wa G Y Z c0 s0 n μ pc L (.inl v :: .inr a :: st) :=
  a_putf (k := 4) cf_11 hd (by decide) rfl rfl (sm_11 4 (by decide)) (by rw [hY]; exact lf_X11_98) ho (fun h => h) hx w
theorem lf_X11_104 : Cond.fieldLink RX11 104 RX11 "undos" "I" ∈ gT := gT_mem (i := 837) (by decide +kernel) (by decide +kernel)
theorem g_X11_104 {G : GT} {Y : MD} {Z : ZT} {c0 s0 n pc : Nat} {μ : Mem} {L : List (Nat × AV)} {st : List AV} {a : Int} (hY : Y.1.cls = RX11) (hd : decode Y.2.1 pc = .ok (.getfield 104, 3)) (ho : gx G n μ → 0 ≤ a ∧ a < n ∧ SH a = (11, 28)) (w : Wa G Y Z c0 s0 n μ (pc + 3) L (.inl (μ a 8) :: st)) : Wa G Y Z c0 s0 n μ pc L (.inr a :: st) :=
  a_getf (k := 8) cf_11 hd (by decide) rfl (by rw [hY]; exact lf_X11_104) ho (fun _ => w)
theorem p_X11_104 {G : GT} {Y : MD} {Z : ZT} {c0 s0 n pc : Nat} {μ : Mem} {L : List (Nat × AV)} {st : List AV} {a v : Int} (hY : Y.1.cls = RX11) (hd : decode Y.2.1 pc = .ok (.putfield 104, 3)) (ho : gx G n μ → 0 ≤ a ∧ a < n ∧ SH a = (11, 28)) (hx : gx G n μ → gx G n (up μ a 8 v)) (w : Wa G Y Z c0 s0 n (up μ a 8 v) (pc + 3) L st) : Wa G Y Z c0 s0 n μ pc L (.inl v :: .inr a :: st) :=
  a_putf (k := 8) cf_11 hd (by decide) rfl rfl (sm_11 8 (by decide)) (by rw [hY]; exact lf_X11_104) ho (fun h => h) hx w
theorem lf_X11_107 : Cond.fieldLink RX11 107 RX11 "seen" "I" ∈ gT := gT_mem (i := 842) (by decide +kernel) (by decide +kernel)
theorem g_X11_107 {G : GT} {Y : MD} {Z : ZT} {c0 s0 n pc : Nat} {μ : Mem} {L : List (Nat × AV)} {st : List AV} {a : Int} (hY : Y.1.cls = RX11) (hd : decode Y.2.1 pc = .ok (.getfield 107, 3)) (ho : gx G n μ → 0 ≤ a ∧ a < n ∧ SH a = (11, 28)) (w : Wa G Y Z c0 s0 n μ (pc + 3) L (.inl (μ a 13) :: st)) : Wa G Y Z c0 s0 n μ pc L (.inr a :: st) :=
  a_getf (k := 13) cf_11 hd (by decide) rfl (by rw [hY]; exact lf_X11_107) ho (fun _ => w)
theorem p_X11_107 {G : GT} {Y : MD} {Z : ZT} {c0 s0 n pc : Nat} {μ : Mem} {L : List (Nat × AV)} {st : List AV} {a v : Int} (hY : Y.1.cls = RX11) (hd : decode Y.2.1 pc = .ok (.putfield 107, 3)) (ho : gx G n μ → 0 ≤ a ∧ a < n ∧ SH a = (11, 28)) (hx : gx G n μ → gx G n (up μ a 13 v)) (w : Wa G Y Z c0 s0 n (up μ a 13 v) (pc + 3) L st) : Wa G Y Z c0 s0 n μ pc L (.inl v :: .inr a :: st) :=
  a_putf (k := 13) cf_11 hd (by decide) rfl rfl (sm_11 13 (by decide)) (by rw [hY]; exact lf_X11_107) ho (fun h => h) hx w
theorem lf_X11_158 : Cond.fieldLink RX11 158 RX11 "wayEnd" "I" ∈ gT := gT_mem (i := 856) (by decide +kernel) (by decide +kernel)
theorem g_X11_158 {G : GT} {Y : MD} {Z : ZT} {c0 s0 n pc : Nat} {μ : Mem} {L : List (Nat × AV)} {st : List AV} {a : Int} (hY : Y.1.cls = RX11) (hd : decode Y.2.1 pc = .ok (.getfield 158, 3)) (ho : gx G n μ → 0 ≤ a ∧ a < n ∧ SH a = (11, 28)) (w : Wa G Y Z c0 s0 n μ (pc + 3) L (.inl (μ a 27) :: st)) : Wa G Y Z c0 s0 n μ pc L (.inr a :: st) :=
  a_getf (k := 27) cf_11 hd (by decide) rfl (by rw [hY]; exact lf_X11_158) ho (fun _ => w)
theorem p_X11_158 {G : GT} {Y : MD} {Z : ZT} {c0 s0 n pc : Nat} {μ : Mem} {L : List (Nat × AV)} {st : List AV} {a v : Int} (hY : Y.1.cls = RX11) (hd : decode Y.2.1 pc = .ok (.putfield 158, 3)) (ho : gx G n μ → 0 ≤ a ∧ a < n ∧ SH a = (11, 28)) (hx : gx G n μ → gx G n (up μ a 27 v)) (w : Wa G Y Z c0 s0 n (up μ a 27 v) (pc + 3) L st) : Wa G Y Z c0 s0 n μ pc L (.inl v :: .inr a :: st) :=
  a_putf (k := 27) cf_11 hd (by decide) rfl rfl (sm_11 27 (by decide)) (by rw [hY]; exact lf_X11_158) ho (fun h => h) hx w
theorem lf_X11_161 : Cond.fieldLink RX11 161 RX11 "wayMany" "I" ∈ gT := gT_mem (i := 853) (by decide +kernel) (by decide +kernel)
theorem g_X11_161 {G : GT} {Y : MD} {Z : ZT} {c0 s0 n pc : Nat} {μ : Mem} {L : List (Nat × AV)} {st : List AV} {a : Int} (hY : Y.1.cls = RX11) (hd : decode Y.2.1 pc = .ok (.getfield 161, 3)) (ho : gx G n μ → 0 ≤ a ∧ a < n ∧ SH a = (11, 28)) (w : Wa G Y Z c0 s0 n μ (pc + 3) L (.inl (μ a 24) :: st)) : Wa G Y Z c0 s0 n μ pc L (.inr a :: st) :=
  a_getf (k := 24) cf_11 hd (by decide) rfl (by rw [hY]; exact lf_X11_161) ho (fun _ => w)
theorem p_X11_161 {G : GT} {Y : MD} {Z : ZT} {c0 s0 n pc : Nat} {μ : Mem} {L : List (Nat × AV)} {st : List AV} {a v : Int} (hY : Y.1.cls = RX11) (hd : decode Y.2.1 pc = .ok (.putfield 161, 3)) (ho : gx G n μ → 0 ≤ a ∧ a < n ∧ SH a = (11, 28)) (hx : gx G n μ → gx G n (up μ a 24 v)) (w : Wa G Y Z c0 s0 n (up μ a 24 v) (pc + 3) L st) : Wa G Y Z c0 s0 n μ pc L (.inl v :: .inr a :: st) :=
  a_putf (k := 24) cf_11 hd (by decide) rfl rfl (sm_11 24 (by decide)) (by rw [hY]; exact lf_X11_161) ho (fun h => h) hx w
theorem lc_X10_9 : Cond.classLink RX10 9 RX9 ∈ gT := gT_mem (i := 83) (by decide +kernel) (by decide +kernel)
theorem n_X10_9 {G : GT} {Y : MD} {Z : ZT} {c0 s0 n pc : Nat} {μ : Mem} {L : List (Nat × AV)} {st : List AV} (hY : Y.1.cls = RX10) (hd : decode Y.2.1 pc = .ok (.new 9, 3)) (hsh : SH (n : Int) = (9, 2)) (hc : c0 + 1 ≤ Y.2.2.2.2.2.2.1) (hs : s0 + 2 ≤ Y.2.2.2.2.2.2.2) (hx : gx G n μ → gx G (n + 1) (nw μ n (objD 9))) (w : Wa G Y Z (c0 + 1) (s0 + 2) (n + 1) (nw μ n (objD 9)) (pc + 3) L (.inr n :: st)) : Wa G Y Z c0 s0 n μ pc L st :=
  a_new cf_9 sm_9 hd (by rw [hY]; exact lc_X10_9) ab_9 in_9 hsh hc hs hx w
theorem lc_X10_16 : Cond.classLink RX10 16 RX4 ∈ gT := gT_mem (i := 99) (by decide +kernel) (by decide +kernel)
theorem n_X10_16 {G : GT} {Y : MD} {Z : ZT} {c0 s0 n pc : Nat} {μ : Mem} {L : List (Nat × AV)} {st : List AV} (hY : Y.1.cls = RX10) (hd : decode Y.2.1 pc = .ok (.new 16, 3)) (hsh : SH (n : Int) = (4, 4)) (hc : c0 + 1 ≤ Y.2.2.2.2.2.2.1) (hs : s0 + 4 ≤ Y.2.2.2.2.2.2.2) (hx : gx G n μ → gx G (n + 1) (nw μ n (objD 4))) (w : Wa G Y Z (c0 + 1) (s0 + 4) (n + 1) (nw μ n (objD 4)) (pc + 3) L (.inr n :: st)) : Wa G Y Z c0 s0 n μ pc L st :=
  a_new cf_4 sm_4 hd (by rw [hY]; exact lc_X10_16) ab_4 in_4 hsh hc hs hx w
theorem lc_X10_25 : Cond.classLink RX10 25 RX3 ∈ gT := gT_mem (i := 174) (by decide +kernel) (by decide +kernel)
theorem n_X10_25 {G : GT} {Y : MD} {Z : ZT} {c0 s0 n pc : Nat} {μ : Mem} {L : List (Nat × AV)} {st : List AV} (hY : Y.1.cls = RX10) (hd : decode Y.2.1 pc = .ok (.new 25, 3)) (hsh : SH (n : Int) = (3, 4)) (hc : c0 + 1 ≤ Y.2.2.2.2.2.2.1) (hs : s0 + 4 ≤ Y.2.2.2.2.2.2.2) (hx : gx G n μ → gx G (n + 1) (nw μ n (objD 3))) (w : Wa G Y Z (c0 + 1) (s0 + 4) (n + 1) (nw μ n (objD 3)) (pc + 3) L (.inr n :: st)) : Wa G Y Z c0 s0 n μ pc L st :=
  a_new cf_3 sm_3 hd (by rw [hY]; exact lc_X10_25) ab_3 in_3 hsh hc hs hx w
theorem lc_X10_32 : Cond.classLink RX10 32 RX6 ∈ gT := gT_mem (i := 176) (by decide +kernel) (by decide +kernel)
theorem n_X10_32 {G : GT} {Y : MD} {Z : ZT} {c0 s0 n pc : Nat} {μ : Mem} {L : List (Nat × AV)} {st : List AV} (hY : Y.1.cls = RX10) (hd : decode Y.2.1 pc = .ok (.new 32, 3)) (hsh : SH (n : Int) = (6, 8)) (hc : c0 + 1 ≤ Y.2.2.2.2.2.2.1) (hs : s0 + 8 ≤ Y.2.2.2.2.2.2.2) (hx : gx G n μ → gx G (n + 1) (nw μ n (objD 6))) (w : Wa G Y Z (c0 + 1) (s0 + 8) (n + 1) (nw μ n (objD 6)) (pc + 3) L (.inr n :: st)) : Wa G Y Z c0 s0 n μ pc L st :=
  a_new cf_6 sm_6 hd (by rw [hY]; exact lc_X10_32) ab_6 in_6 hsh hc hs hx w
theorem lc_X10_41 : Cond.classLink RX10 41 RX5 ∈ gT := gT_mem (i := 231) (by decide +kernel) (by decide +kernel)
theorem n_X10_41 {G : GT} {Y : MD} {Z : ZT} {c0 s0 n pc : Nat} {μ : Mem} {L : List (Nat × AV)} {st : List AV} (hY : Y.1.cls = RX10) (hd : decode Y.2.1 pc = .ok (.new 41, 3)) (hsh : SH (n : Int) = (5, 1)) (hc : c0 + 1 ≤ Y.2.2.2.2.2.2.1) (hs : s0 + 1 ≤ Y.2.2.2.2.2.2.2) (hx : gx G n μ → gx G (n + 1) (nw μ n (objD 5))) (w : Wa G Y Z (c0 + 1) (s0 + 1) (n + 1) (nw μ n (objD 5)) (pc + 3) L (.inr n :: st)) : Wa G Y Z c0 s0 n μ pc L st :=
  a_new cf_5 sm_5 hd (by rw [hY]; exact lc_X10_41) ab_5 in_5 hsh hc hs hx w
theorem lc_X10_50 : Cond.classLink RX10 50 RX7 ∈ gT := gT_mem (i := 241) (by decide +kernel) (by decide +kernel)
theorem n_X10_50 {G : GT} {Y : MD} {Z : ZT} {c0 s0 n pc : Nat} {μ : Mem} {L : List (Nat × AV)} {st : List AV} (hY : Y.1.cls = RX10) (hd : decode Y.2.1 pc = .ok (.new 50, 3)) (hsh : SH (n : Int) = (7, 5)) (hc : c0 + 1 ≤ Y.2.2.2.2.2.2.1) (hs : s0 + 5 ≤ Y.2.2.2.2.2.2.2) (hx : gx G n μ → gx G (n + 1) (nw μ n (objD 7))) (w : Wa G Y Z (c0 + 1) (s0 + 5) (n + 1) (nw μ n (objD 7)) (pc + 3) L (.inr n :: st)) : Wa G Y Z c0 s0 n μ pc L st :=
  a_new cf_7 sm_7 hd (by rw [hY]; exact lc_X10_50) ab_7 in_7 hsh hc hs hx w
theorem lc_X10_60 : Cond.classLink RX10 60 RX2 ∈ gT := gT_mem (i := 315) (by decide +kernel) (by decide +kernel)
theorem n_X10_60 {G : GT} {Y : MD} {Z : ZT} {c0 s0 n pc : Nat} {μ : Mem} {L : List (Nat × AV)} {st : List AV} (hY : Y.1.cls = RX10) (hd : decode Y.2.1 pc = .ok (.new 60, 3)) (hsh : SH (n : Int) = (2, 4)) (hc : c0 + 1 ≤ Y.2.2.2.2.2.2.1) (hs : s0 + 4 ≤ Y.2.2.2.2.2.2.2) (hx : gx G n μ → gx G (n + 1) (nw μ n (objD 2))) (w : Wa G Y Z (c0 + 1) (s0 + 4) (n + 1) (nw μ n (objD 2)) (pc + 3) L (.inr n :: st)) : Wa G Y Z c0 s0 n μ pc L st :=
  a_new cf_2 sm_2 hd (by rw [hY]; exact lc_X10_60) ab_2 in_2 hsh hc hs hx w
theorem lc_X10_73 : Cond.classLink RX10 73 RX8 ∈ gT := gT_mem (i := 338) (by decide +kernel) (by decide +kernel)
theorem n_X10_73 {G : GT} {Y : MD} {Z : ZT} {c0 s0 n pc : Nat} {μ : Mem} {L : List (Nat × AV)} {st : List AV} (hY : Y.1.cls = RX10) (hd : decode Y.2.1 pc = .ok (.new 73, 3)) (hsh : SH (n : Int) = (8, 3)) (hc : c0 + 1 ≤ Y.2.2.2.2.2.2.1) (hs : s0 + 3 ≤ Y.2.2.2.2.2.2.2) (hx : gx G n μ → gx G (n + 1) (nw μ n (objD 8))) (w : Wa G Y Z (c0 + 1) (s0 + 3) (n + 1) (nw μ n (objD 8)) (pc + 3) L (.inr n :: st)) : Wa G Y Z c0 s0 n μ pc L st :=
  a_new cf_8 sm_8 hd (by rw [hY]; exact lc_X10_73) ab_8 in_8 hsh hc hs hx w
theorem lc_X0_15 : Cond.classLink RX0 15 RX8 ∈ gT := gT_mem (i := 253) (by decide +kernel) (by decide +kernel)
theorem n_X0_15 {G : GT} {Y : MD} {Z : ZT} {c0 s0 n pc : Nat} {μ : Mem} {L : List (Nat × AV)} {st : List AV} (hY : Y.1.cls = RX0) (hd : decode Y.2.1 pc = .ok (.new 15, 3)) (hsh : SH (n : Int) = (8, 3)) (hc : c0 + 1 ≤ Y.2.2.2.2.2.2.1) (hs : s0 + 3 ≤ Y.2.2.2.2.2.2.2) (hx : gx G n μ → gx G (n + 1) (nw μ n (objD 8))) (w : Wa G Y Z (c0 + 1) (s0 + 3) (n + 1) (nw μ n (objD 8)) (pc + 3) L (.inr n :: st)) : Wa G Y Z c0 s0 n μ pc L st :=
  a_new cf_8 sm_8 hd (by rw [hY]; exact lc_X0_15) ab_8 in_8 hsh hc hs hx w
theorem lc_X2_9 : Cond.classLink RX2 9 RX7 ∈ gT := gT_mem (i := 321) (by decide +kernel) (by decide +kernel)
theorem na_X2_9 {G : GT} {Y : MD} {Z : ZT} {c0 s0 n pc : Nat} {μ : Mem} {L : List (Nat × AV)} {st : List AV} {N : Nat} (hY : Y.1.cls = RX2) (hd : decode Y.2.1 pc = .ok (.anewarray 9, 3)) (hN : N < 1000000) (hsh : SH (n : Int) = (24, N)) (hc : c0 + 1 ≤ Y.2.2.2.2.2.2.1) (hs : s0 + N ≤ Y.2.2.2.2.2.2.2) (hx : gx G n μ → gx G (n + 1) (nw μ n nullD)) (w : Wa G Y Z (c0 + 1) (s0 + N) (n + 1) (nw μ n nullD) (pc + 3) L (.inr n :: st)) : Wa G Y Z c0 s0 n μ pc L (.inl N :: st) :=
  a_newref (kd := 24) (t0 := 4) (C := RX7) hd (by decide) rfl (by rw [hY]; exact lc_X2_9) (fun U h => h.2.2.2.2) hN hsh hc hs hx w
theorem n_X2_9 {G : GT} {Y : MD} {Z : ZT} {c0 s0 n pc : Nat} {μ : Mem} {L : List (Nat × AV)} {st : List AV} (hY : Y.1.cls = RX2) (hd : decode Y.2.1 pc = .ok (.new 9, 3)) (hsh : SH (n : Int) = (7, 5)) (hc : c0 + 1 ≤ Y.2.2.2.2.2.2.1) (hs : s0 + 5 ≤ Y.2.2.2.2.2.2.2) (hx : gx G n μ → gx G (n + 1) (nw μ n (objD 7))) (w : Wa G Y Z (c0 + 1) (s0 + 5) (n + 1) (nw μ n (objD 7)) (pc + 3) L (.inr n :: st)) : Wa G Y Z c0 s0 n μ pc L st :=
  a_new cf_7 sm_7 hd (by rw [hY]; exact lc_X2_9) ab_7 in_7 hsh hc hs hx w
theorem lc_X3_9 : Cond.classLink RX3 9 RX1 ∈ gT := gT_mem (i := 111) (by decide +kernel) (by decide +kernel)
theorem na_X3_9 {G : GT} {Y : MD} {Z : ZT} {c0 s0 n pc : Nat} {μ : Mem} {L : List (Nat × AV)} {st : List AV} {N : Nat} (hY : Y.1.cls = RX3) (hd : decode Y.2.1 pc = .ok (.anewarray 9, 3)) (hN : N < 1000000) (hsh : SH (n : Int) = (23, N)) (hc : c0 + 1 ≤ Y.2.2.2.2.2.2.1) (hs : s0 + N ≤ Y.2.2.2.2.2.2.2) (hx : gx G n μ → gx G (n + 1) (nw μ n nullD)) (w : Wa G Y Z (c0 + 1) (s0 + N) (n + 1) (nw μ n nullD) (pc + 3) L (.inr n :: st)) : Wa G Y Z c0 s0 n μ pc L (.inl N :: st) :=
  a_newref (kd := 23) (t0 := 3) (C := RX1) hd (by decide) rfl (by rw [hY]; exact lc_X3_9) (fun U h => h.2.2.2.1) hN hsh hc hs hx w
theorem n_X3_9 {G : GT} {Y : MD} {Z : ZT} {c0 s0 n pc : Nat} {μ : Mem} {L : List (Nat × AV)} {st : List AV} (hY : Y.1.cls = RX3) (hd : decode Y.2.1 pc = .ok (.new 9, 3)) (hsh : SH (n : Int) = (1, 6)) (hc : c0 + 1 ≤ Y.2.2.2.2.2.2.1) (hs : s0 + 6 ≤ Y.2.2.2.2.2.2.2) (hx : gx G n μ → gx G (n + 1) (nw μ n (objD 1))) (w : Wa G Y Z (c0 + 1) (s0 + 6) (n + 1) (nw μ n (objD 1)) (pc + 3) L (.inr n :: st)) : Wa G Y Z c0 s0 n μ pc L st :=
  a_new cf_1 sm_1 hd (by rw [hY]; exact lc_X3_9) ab_1 in_1 hsh hc hs hx w
theorem lc_X4_15 : Cond.classLink RX4 15 RX3 ∈ gT := gT_mem (i := 105) (by decide +kernel) (by decide +kernel)
theorem n_X4_15 {G : GT} {Y : MD} {Z : ZT} {c0 s0 n pc : Nat} {μ : Mem} {L : List (Nat × AV)} {st : List AV} (hY : Y.1.cls = RX4) (hd : decode Y.2.1 pc = .ok (.new 15, 3)) (hsh : SH (n : Int) = (3, 4)) (hc : c0 + 1 ≤ Y.2.2.2.2.2.2.1) (hs : s0 + 4 ≤ Y.2.2.2.2.2.2.2) (hx : gx G n μ → gx G (n + 1) (nw μ n (objD 3))) (w : Wa G Y Z (c0 + 1) (s0 + 4) (n + 1) (nw μ n (objD 3)) (pc + 3) L (.inr n :: st)) : Wa G Y Z c0 s0 n μ pc L st :=
  a_new cf_3 sm_3 hd (by rw [hY]; exact lc_X4_15) ab_3 in_3 hsh hc hs hx w
theorem lc_X4_72 : Cond.classLink RX4 72 RX1 ∈ gT := gT_mem (i := 455) (by decide +kernel) (by decide +kernel)
theorem n_X4_72 {G : GT} {Y : MD} {Z : ZT} {c0 s0 n pc : Nat} {μ : Mem} {L : List (Nat × AV)} {st : List AV} (hY : Y.1.cls = RX4) (hd : decode Y.2.1 pc = .ok (.new 72, 3)) (hsh : SH (n : Int) = (1, 6)) (hc : c0 + 1 ≤ Y.2.2.2.2.2.2.1) (hs : s0 + 6 ≤ Y.2.2.2.2.2.2.2) (hx : gx G n μ → gx G (n + 1) (nw μ n (objD 1))) (w : Wa G Y Z (c0 + 1) (s0 + 6) (n + 1) (nw μ n (objD 1)) (pc + 3) L (.inr n :: st)) : Wa G Y Z c0 s0 n μ pc L st :=
  a_new cf_1 sm_1 hd (by rw [hY]; exact lc_X4_72) ab_1 in_1 hsh hc hs hx w
theorem lc_X6_15 : Cond.classLink RX6 15 RX8 ∈ gT := gT_mem (i := 182) (by decide +kernel) (by decide +kernel)
theorem n_X6_15 {G : GT} {Y : MD} {Z : ZT} {c0 s0 n pc : Nat} {μ : Mem} {L : List (Nat × AV)} {st : List AV} (hY : Y.1.cls = RX6) (hd : decode Y.2.1 pc = .ok (.new 15, 3)) (hsh : SH (n : Int) = (8, 3)) (hc : c0 + 1 ≤ Y.2.2.2.2.2.2.1) (hs : s0 + 3 ≤ Y.2.2.2.2.2.2.2) (hx : gx G n μ → gx G (n + 1) (nw μ n (objD 8))) (w : Wa G Y Z (c0 + 1) (s0 + 3) (n + 1) (nw μ n (objD 8)) (pc + 3) L (.inr n :: st)) : Wa G Y Z c0 s0 n μ pc L st :=
  a_new cf_8 sm_8 hd (by rw [hY]; exact lc_X6_15) ab_8 in_8 hsh hc hs hx w
theorem lc_X7_9 : Cond.classLink RX7 9 RX0 ∈ gT := gT_mem (i := 247) (by decide +kernel) (by decide +kernel)
theorem na_X7_9 {G : GT} {Y : MD} {Z : ZT} {c0 s0 n pc : Nat} {μ : Mem} {L : List (Nat × AV)} {st : List AV} {N : Nat} (hY : Y.1.cls = RX7) (hd : decode Y.2.1 pc = .ok (.anewarray 9, 3)) (hN : N < 1000000) (hsh : SH (n : Int) = (22, N)) (hc : c0 + 1 ≤ Y.2.2.2.2.2.2.1) (hs : s0 + N ≤ Y.2.2.2.2.2.2.2) (hx : gx G n μ → gx G (n + 1) (nw μ n nullD)) (w : Wa G Y Z (c0 + 1) (s0 + N) (n + 1) (nw μ n nullD) (pc + 3) L (.inr n :: st)) : Wa G Y Z c0 s0 n μ pc L (.inl N :: st) :=
  a_newref (kd := 22) (t0 := 2) (C := RX0) hd (by decide) rfl (by rw [hY]; exact lc_X7_9) (fun U h => h.2.2.1) hN hsh hc hs hx w
theorem n_X7_9 {G : GT} {Y : MD} {Z : ZT} {c0 s0 n pc : Nat} {μ : Mem} {L : List (Nat × AV)} {st : List AV} (hY : Y.1.cls = RX7) (hd : decode Y.2.1 pc = .ok (.new 9, 3)) (hsh : SH (n : Int) = (0, 9)) (hc : c0 + 1 ≤ Y.2.2.2.2.2.2.1) (hs : s0 + 9 ≤ Y.2.2.2.2.2.2.2) (hx : gx G n μ → gx G (n + 1) (nw μ n (objD 0))) (w : Wa G Y Z (c0 + 1) (s0 + 9) (n + 1) (nw μ n (objD 0)) (pc + 3) L (.inr n :: st)) : Wa G Y Z c0 s0 n μ pc L st :=
  a_new cf_0 sm_0 hd (by rw [hY]; exact lc_X7_9) ab_0 in_0 hsh hc hs hx w
theorem lc_L_7 : Cond.classLink RL 7 RX10 ∈ gT := gT_mem (i := 75) (by decide +kernel) (by decide +kernel)
theorem n_L_7 {G : GT} {Y : MD} {Z : ZT} {c0 s0 n pc : Nat} {μ : Mem} {L : List (Nat × AV)} {st : List AV} (hY : Y.1.cls = RL) (hd : decode Y.2.1 pc = .ok (.new 7, 3)) (hsh : SH (n : Int) = (10, 12)) (hc : c0 + 1 ≤ Y.2.2.2.2.2.2.1) (hs : s0 + 12 ≤ Y.2.2.2.2.2.2.2) (hx : gx G n μ → gx G (n + 1) (nw μ n (objD 10))) (w : Wa G Y Z (c0 + 1) (s0 + 12) (n + 1) (nw μ n (objD 10)) (pc + 3) L (.inr n :: st)) : Wa G Y Z c0 s0 n μ pc L st :=
  a_new cf_10 sm_10 hd (by rw [hY]; exact lc_L_7) ab_10 in_10 hsh hc hs hx w
theorem lc_L_10 : Cond.classLink RL 10 RX11 ∈ gT := gT_mem (i := 815) (by decide +kernel) (by decide +kernel)
theorem n_L_10 {G : GT} {Y : MD} {Z : ZT} {c0 s0 n pc : Nat} {μ : Mem} {L : List (Nat × AV)} {st : List AV} (hY : Y.1.cls = RL) (hd : decode Y.2.1 pc = .ok (.new 10, 3)) (hsh : SH (n : Int) = (11, 28)) (hc : c0 + 1 ≤ Y.2.2.2.2.2.2.1) (hs : s0 + 28 ≤ Y.2.2.2.2.2.2.2) (hx : gx G n μ → gx G (n + 1) (nw μ n (objD 11))) (w : Wa G Y Z (c0 + 1) (s0 + 28) (n + 1) (nw μ n (objD 11)) (pc + 3) L (.inr n :: st)) : Wa G Y Z c0 s0 n μ pc L st :=
  a_new cf_11 sm_11 hd (by rw [hY]; exact lc_L_10) ab_11 in_11 hsh hc hs hx w
theorem lm_X10_3 : Cond.methodLink RX10 3 Lib.objectInit ∈ gT := gT_mem (i := 80) (by decide +kernel) (by decide +kernel)
theorem k_X10_3 {G : GT} {Y : MD} {Z : ZT} {c0 s0 n pc : Nat} {μ : Mem} {L : List (Nat × AV)} {st : List AV} {a : Int} (hY : Y.1.cls = RX10) (hd : decode Y.2.1 pc = .ok (.invokespecial 3, 3)) (ha : 0 ≤ a) (hst : st.length ≤ 8) (hf : Nat.ble 1 Y.2.2.2.2.1 = true) (hlo : Nat.ble 20 Y.2.2.2.2.2.1 = true) (w : Wa G Y Z c0 s0 n μ (pc + 3) L st) : Wa G Y Z c0 s0 n μ pc L (.inr a :: st) :=
  a_objInit hd (by rw [hY]; exact lm_X10_3) oi_i oi_c ha hst (Nat.le_of_ble_eq_true hf) (Nat.le_of_ble_eq_true hlo) w
theorem lm_X10_11 : Cond.methodLink RX10 11 yX9_init ∈ gT := gT_mem (i := 85) (by decide +kernel) (by decide +kernel)
theorem k_X10_11 {G : GT} {Y : MD} {Z : ZT} {c0 s0 n pc : Nat} {μ : Mem} {L : List (Nat × AV)} {st : List AV} {a : Int} {Q : Nat → Mem → Prop} (hY : Y.1.cls = RX10) (hd : decode Y.2.1 pc = .ok (.invokespecial 11, 3)) (hst : st.length ≤ 8) (hf : fitsB Y Y_X9_init = true) (hc : c0 + 1 ≤ Y.2.2.2.2.2.2.1) (hs : s0 + 150 ≤ Y.2.2.2.2.2.2.2) (ha : 0 ≤ a) (h : CV G Y_X9_init [.inr a] n μ Q) (w : ∀ (n' : Nat) (ν : Mem), Q n' ν → Wa G Y Z (c0 + 1) (s0 + 150) n' ν (pc + 3) L st) : Wa G Y Z c0 s0 n μ pc L (.inr a :: st) :=
  c_N (Yc := Y_X9_init) (As := []) rfl hd (by rw [hY]; exact lm_X10_11) mc_X9_init mi_X9_init rfl rfl hst (fits_of hf hc hs) ha h rfl rfl w
theorem lm_X10_18 : Cond.methodLink RX10 18 yX4_init ∈ gT := gT_mem (i := 101) (by decide +kernel) (by decide +kernel)
theorem k_X10_18 {G : GT} {Y : MD} {Z : ZT} {c0 s0 n pc : Nat} {μ : Mem} {L : List (Nat × AV)} {st : List AV} {a : Int} {x0 : Int} {Q : Nat → Mem → Prop} (hY : Y.1.cls = RX10) (hd : decode Y.2.1 pc = .ok (.invokespecial 18, 3)) (hst : st.length ≤ 8) (hf : fitsB Y Y_X4_init = true) (hc : c0 + 3 ≤ Y.2.2.2.2.2.2.1) (hs : s0 + 18 ≤ Y.2.2.2.2.2.2.2) (ha : 0 ≤ a) (h : CV G Y_X4_init [.inr a, .inr x0] n μ Q) (w : ∀ (n' : Nat) (ν : Mem), Q n' ν → Wa G Y Z (c0 + 3) (s0 + 18) n' ν (pc + 3) L st) : Wa G Y Z c0 s0 n μ pc L (.inr x0 :: .inr a :: st) :=
  c_N (Yc := Y_X4_init) (As := [.inr x0]) rfl hd (by rw [hY]; exact lm_X10_18) mc_X4_init mi_X4_init rfl rfl hst (fits_of hf hc hs) ha h rfl rfl w
theorem lm_X10_27 : Cond.methodLink RX10 27 yX3_init ∈ gT := gT_mem (i := 175) (by decide +kernel) (by decide +kernel)
theorem k_X10_27 {G : GT} {Y : MD} {Z : ZT} {c0 s0 n pc : Nat} {μ : Mem} {L : List (Nat × AV)} {st : List AV} {a : Int} {Q : Nat → Mem → Prop} (hY : Y.1.cls = RX10) (hd : decode Y.2.1 pc = .ok (.invokespecial 27, 3)) (hst : st.length ≤ 8) (hf : fitsB Y Y_X3_init = true) (hc : c0 + 2 ≤ Y.2.2.2.2.2.2.1) (hs : s0 + 14 ≤ Y.2.2.2.2.2.2.2) (ha : 0 ≤ a) (h : CV G Y_X3_init [.inr a] n μ Q) (w : ∀ (n' : Nat) (ν : Mem), Q n' ν → Wa G Y Z (c0 + 2) (s0 + 14) n' ν (pc + 3) L st) : Wa G Y Z c0 s0 n μ pc L (.inr a :: st) :=
  c_N (Yc := Y_X3_init) (As := []) rfl hd (by rw [hY]; exact lm_X10_27) mc_X3_init mi_X3_init rfl rfl hst (fits_of hf hc hs) ha h rfl rfl w
theorem lm_X10_34 : Cond.methodLink RX10 34 yX6_init ∈ gT := gT_mem (i := 178) (by decide +kernel) (by decide +kernel)
theorem k_X10_34 {G : GT} {Y : MD} {Z : ZT} {c0 s0 n pc : Nat} {μ : Mem} {L : List (Nat × AV)} {st : List AV} {a : Int} {x0 : Int} {Q : Nat → Mem → Prop} (hY : Y.1.cls = RX10) (hd : decode Y.2.1 pc = .ok (.invokespecial 34, 3)) (hst : st.length ≤ 8) (hf : fitsB Y Y_X6_init = true) (hc : c0 + 6 ≤ Y.2.2.2.2.2.2.1) (hs : s0 + 2409 ≤ Y.2.2.2.2.2.2.2) (ha : 0 ≤ a) (h : CV G Y_X6_init [.inr a, .inr x0] n μ Q) (w : ∀ (n' : Nat) (ν : Mem), Q n' ν → Wa G Y Z (c0 + 6) (s0 + 2409) n' ν (pc + 3) L st) : Wa G Y Z c0 s0 n μ pc L (.inr x0 :: .inr a :: st) :=
  c_N (Yc := Y_X6_init) (As := [.inr x0]) rfl hd (by rw [hY]; exact lm_X10_34) mc_X6_init mi_X6_init rfl rfl hst (fits_of hf hc hs) ha h rfl rfl w
theorem lm_X10_43 : Cond.methodLink RX10 43 yX5_init ∈ gT := gT_mem (i := 233) (by decide +kernel) (by decide +kernel)
theorem k_X10_43 {G : GT} {Y : MD} {Z : ZT} {c0 s0 n pc : Nat} {μ : Mem} {L : List (Nat × AV)} {st : List AV} {a : Int} {x0 : Int} {Q : Nat → Mem → Prop} (hY : Y.1.cls = RX10) (hd : decode Y.2.1 pc = .ok (.invokespecial 43, 3)) (hst : st.length ≤ 8) (hf : fitsB Y Y_X5_init = true) (hc : c0 + 0 ≤ Y.2.2.2.2.2.2.1) (hs : s0 + 0 ≤ Y.2.2.2.2.2.2.2) (ha : 0 ≤ a) (h : CV G Y_X5_init [.inr a, .inr x0] n μ Q) (w : ∀ (n' : Nat) (ν : Mem), Q n' ν → Wa G Y Z c0 s0 n' ν (pc + 3) L st) : Wa G Y Z c0 s0 n μ pc L (.inr x0 :: .inr a :: st) :=
  c_N (Yc := Y_X5_init) (As := [.inr x0]) rfl hd (by rw [hY]; exact lm_X10_43) mc_X5_init mi_X5_init rfl rfl hst (fits_of hf hc hs) ha h rfl rfl w
theorem lm_X10_52 : Cond.methodLink RX10 52 yX7_init ∈ gT := gT_mem (i := 243) (by decide +kernel) (by decide +kernel)
theorem k_X10_52 {G : GT} {Y : MD} {Z : ZT} {c0 s0 n pc : Nat} {μ : Mem} {L : List (Nat × AV)} {st : List AV} {a : Int} {x0 : Int} {Q : Nat → Mem → Prop} (hY : Y.1.cls = RX10) (hd : decode Y.2.1 pc = .ok (.invokespecial 52, 3)) (hst : st.length ≤ 8) (hf : fitsB Y Y_X7_init = true) (hc : c0 + 28 ≤ Y.2.2.2.2.2.2.1) (hs : s0 + 7316 ≤ Y.2.2.2.2.2.2.2) (ha : 0 ≤ a) (h : CV G Y_X7_init [.inr a, .inr x0] n μ Q) (w : ∀ (n' : Nat) (ν : Mem), Q n' ν → Wa G Y Z (c0 + 28) (s0 + 7316) n' ν (pc + 3) L st) : Wa G Y Z c0 s0 n μ pc L (.inr x0 :: .inr a :: st) :=
  c_N (Yc := Y_X7_init) (As := [.inr x0]) rfl hd (by rw [hY]; exact lm_X10_52) mc_X7_init mi_X7_init rfl rfl hst (fits_of hf hc hs) ha h rfl rfl w
theorem lm_X10_62 : Cond.methodLink RX10 62 yX2_init ∈ gT := gT_mem (i := 317) (by decide +kernel) (by decide +kernel)
theorem k_X10_62 {G : GT} {Y : MD} {Z : ZT} {c0 s0 n pc : Nat} {μ : Mem} {L : List (Nat × AV)} {st : List AV} {a : Int} {x0 : Int} {Q : Nat → Mem → Prop} (hY : Y.1.cls = RX10) (hd : decode Y.2.1 pc = .ok (.invokespecial 62, 3)) (hst : st.length ≤ 8) (hf : fitsB Y Y_X2_init = true) (hc : c0 + 262 ≤ Y.2.2.2.2.2.2.1) (hs : s0 + 65897 ≤ Y.2.2.2.2.2.2.2) (ha : 0 ≤ a) (h : CV G Y_X2_init [.inr a, .inr x0] n μ Q) (w : ∀ (n' : Nat) (ν : Mem), Q n' ν → Wa G Y Z (c0 + 262) (s0 + 65897) n' ν (pc + 3) L st) : Wa G Y Z c0 s0 n μ pc L (.inr x0 :: .inr a :: st) :=
  c_N (Yc := Y_X2_init) (As := [.inr x0]) rfl hd (by rw [hY]; exact lm_X10_62) mc_X2_init mi_X2_init rfl rfl hst (fits_of hf hc hs) ha h rfl rfl w
theorem lm_X10_75 : Cond.methodLink RX10 75 yX8_init ∈ gT := gT_mem (i := 339) (by decide +kernel) (by decide +kernel)
theorem k_X10_75 {G : GT} {Y : MD} {Z : ZT} {c0 s0 n pc : Nat} {μ : Mem} {L : List (Nat × AV)} {st : List AV} {a : Int} {x0 x1 : Int} {Q : Nat → Mem → Prop} (hY : Y.1.cls = RX10) (hd : decode Y.2.1 pc = .ok (.invokespecial 75, 3)) (hst : st.length ≤ 8) (hf : fitsB Y Y_X8_init = true) (hc : c0 + 1 ≤ Y.2.2.2.2.2.2.1) (hs : s0 + 800 ≤ Y.2.2.2.2.2.2.2) (ha : 0 ≤ a) (h : CV G Y_X8_init [.inr a, .inl x0, .inl x1] n μ Q) (w : ∀ (n' : Nat) (ν : Mem), Q n' ν → Wa G Y Z (c0 + 1) (s0 + 800) n' ν (pc + 3) L st) : Wa G Y Z c0 s0 n μ pc L (.inl x1 :: .inl x0 :: .inr a :: st) :=
  c_N (Yc := Y_X8_init) (As := [.inl x0, .inl x1]) rfl hd (by rw [hY]; exact lm_X10_75) mc_X8_init mi_X8_init rfl rfl hst (fits_of hf hc hs) ha h rfl rfl w
theorem lm_X10_86 : Cond.methodLink RX10 86 yX10_isWithin ∈ gT := gT_mem (i := 381) (by decide +kernel) (by decide +kernel)
theorem k_X10_86 {G : GT} {Y : MD} {Z : ZT} {c0 s0 n pc : Nat} {μ : Mem} {L : List (Nat × AV)} {st : List AV} {x0 x1 x2 : Int} {Q : Int → Nat → Mem → Prop} (hY : Y.1.cls = RX10) (hd : decode Y.2.1 pc = .ok (.invokestatic 86, 3)) (hst : st.length ≤ 8) (hf : fitsB Y Y_X10_isWithin = true) (hc : c0 + 0 ≤ Y.2.2.2.2.2.2.1) (hs : s0 + 0 ≤ Y.2.2.2.2.2.2.2) (h : CI G Y_X10_isWithin [.inl x0, .inl x1, .inl x2] n μ Q) (w : ∀ (x : Int) (n' : Nat) (ν : Mem), Q x n' ν → Wa G Y Z c0 s0 n' ν (pc + 3) L (.inl x :: st)) : Wa G Y Z c0 s0 n μ pc L (.inl x2 :: .inl x1 :: .inl x0 :: st) :=
  c_SI (Yc := Y_X10_isWithin) (As := [.inl x0, .inl x1, .inl x2]) rfl hd (by rw [hY]; exact lm_X10_86) mc_X10_isWithin mt_X10_isWithin hst (fits_of hf hc hs) h rfl rfl w
theorem lm_X10_90 : Cond.methodLink RX10 90 yX9_isFull ∈ gT := gT_mem (i := 384) (by decide +kernel) (by decide +kernel)
theorem k_X10_90 {G : GT} {Y : MD} {Z : ZT} {c0 s0 n pc : Nat} {μ : Mem} {L : List (Nat × AV)} {st : List AV} {a : Int} {Q : Int → Nat → Mem → Prop} (hY : Y.1.cls = RX10) (hd : decode Y.2.1 pc = .ok (.invokevirtual 90, 3)) (hst : st.length ≤ 8) (hf : fitsB Y Y_X9_isFull = true) (hc : c0 + 0 ≤ Y.2.2.2.2.2.2.1) (hs : s0 + 0 ≤ Y.2.2.2.2.2.2.2) (ho : gx G n μ → 0 ≤ a ∧ a < n ∧ SH a = (9, 2)) (h : CI G Y_X9_isFull [.inr a] n μ Q) (w : ∀ (x : Int) (n' : Nat) (ν : Mem), Q x n' ν → Wa G Y Z c0 s0 n' ν (pc + 3) L (.inl x :: st)) : Wa G Y Z c0 s0 n μ pc L (.inr a :: st) :=
  c_VI (Yc := Y_X9_isFull) (As := []) rfl hd (by rw [hY]; exact lm_X10_90) mc_X9_isFull mi_X9_isFull ms_X9_isFull hst (fits_of hf hc hs) cf_9.2.1 (by decide) ho h rfl rfl w
theorem lm_X10_94 : Cond.methodLink RX10 94 yX9_append ∈ gT := gT_mem (i := 388) (by decide +kernel) (by decide +kernel)
theorem k_X10_94 {G : GT} {Y : MD} {Z : ZT} {c0 s0 n pc : Nat} {μ : Mem} {L : List (Nat × AV)} {st : List AV} {a : Int} {x0 : Int} {Q : Nat → Mem → Prop} (hY : Y.1.cls = RX10) (hd : decode Y.2.1 pc = .ok (.invokevirtual 94, 3)) (hst : st.length ≤ 8) (hf : fitsB Y Y_X9_append = true) (hc : c0 + 0 ≤ Y.2.2.2.2.2.2.1) (hs : s0 + 0 ≤ Y.2.2.2.2.2.2.2) (ho : gx G n μ → 0 ≤ a ∧ a < n ∧ SH a = (9, 2)) (h : CV G Y_X9_append [.inr a, .inl x0] n μ Q) (w : ∀ (n' : Nat) (ν : Mem), Q n' ν → Wa G Y Z c0 s0 n' ν (pc + 3) L st) : Wa G Y Z c0 s0 n μ pc L (.inl x0 :: .inr a :: st) :=
  c_VV (Yc := Y_X9_append) (As := [.inl x0]) rfl hd (by rw [hY]; exact lm_X10_94) mc_X9_append mi_X9_append ms_X9_append hst (fits_of hf hc hs) cf_9.2.1 (by decide) ho h rfl rfl w
theorem lm_X10_101 : Cond.methodLink RX10 101 yX9_empty ∈ gT := gT_mem (i := 396) (by decide +kernel) (by decide +kernel)
theorem k_X10_101 {G : GT} {Y : MD} {Z : ZT} {c0 s0 n pc : Nat} {μ : Mem} {L : List (Nat × AV)} {st : List AV} {a : Int} {Q : Nat → Mem → Prop} (hY : Y.1.cls = RX10) (hd : decode Y.2.1 pc = .ok (.invokevirtual 101, 3)) (hst : st.length ≤ 8) (hf : fitsB Y Y_X9_empty = true) (hc : c0 + 0 ≤ Y.2.2.2.2.2.2.1) (hs : s0 + 0 ≤ Y.2.2.2.2.2.2.2) (ho : gx G n μ → 0 ≤ a ∧ a < n ∧ SH a = (9, 2)) (h : CV G Y_X9_empty [.inr a] n μ Q) (w : ∀ (n' : Nat) (ν : Mem), Q n' ν → Wa G Y Z c0 s0 n' ν (pc + 3) L st) : Wa G Y Z c0 s0 n μ pc L (.inr a :: st) :=
  c_VV (Yc := Y_X9_empty) (As := []) rfl hd (by rw [hY]; exact lm_X10_101) mc_X9_empty mi_X9_empty ms_X9_empty hst (fits_of hf hc hs) cf_9.2.1 (by decide) ho h rfl rfl w
theorem lm_X10_104 : Cond.methodLink RX10 104 yX4_readPlan ∈ gT := gT_mem (i := 404) (by decide +kernel) (by decide +kernel)
theorem k_X10_104 {G : GT} {Y : MD} {Z : ZT} {c0 s0 n pc : Nat} {μ : Mem} {L : List (Nat × AV)} {st : List AV} {a : Int} {Q : Int → Nat → Mem → Prop} (hY : Y.1.cls = RX10) (hd : decode Y.2.1 pc = .ok (.invokevirtual 104, 3)) (hst : st.length ≤ 8) (hf : fitsB Y Y_X4_readPlan = true) (hc : c0 + 150 ≤ Y.2.2.2.2.2.2.1) (hs : s0 + 900 ≤ Y.2.2.2.2.2.2.2) (ho : gx G n μ → 0 ≤ a ∧ a < n ∧ SH a = (4, 4)) (h : CI G Y_X4_readPlan [.inr a] n μ Q) (w : ∀ (x : Int) (n' : Nat) (ν : Mem), Q x n' ν → Wa G Y Z (c0 + 150) (s0 + 900) n' ν (pc + 3) L (.inl x :: st)) : Wa G Y Z c0 s0 n μ pc L (.inr a :: st) :=
  c_VI (Yc := Y_X4_readPlan) (As := []) rfl hd (by rw [hY]; exact lm_X10_104) mc_X4_readPlan mi_X4_readPlan ms_X4_readPlan hst (fits_of hf hc hs) cf_4.2.1 (by decide) ho h rfl rfl w
theorem lm_X10_111 : Cond.methodLink RX10 111 yX3_copyFrom ∈ gT := gT_mem (i := 461) (by decide +kernel) (by decide +kernel)
theorem k_X10_111 {G : GT} {Y : MD} {Z : ZT} {c0 s0 n pc : Nat} {μ : Mem} {L : List (Nat × AV)} {st : List AV} {a : Int} {x0 : Int} {Q : Nat → Mem → Prop} (hY : Y.1.cls = RX10) (hd : decode Y.2.1 pc = .ok (.invokevirtual 111, 3)) (hst : st.length ≤ 8) (hf : fitsB Y Y_X3_copyFrom = true) (hc : c0 + 0 ≤ Y.2.2.2.2.2.2.1) (hs : s0 + 0 ≤ Y.2.2.2.2.2.2.2) (ho : gx G n μ → 0 ≤ a ∧ a < n ∧ SH a = (3, 4)) (h : CV G Y_X3_copyFrom [.inr a, .inr x0] n μ Q) (w : ∀ (n' : Nat) (ν : Mem), Q n' ν → Wa G Y Z c0 s0 n' ν (pc + 3) L st) : Wa G Y Z c0 s0 n μ pc L (.inr x0 :: .inr a :: st) :=
  c_VV (Yc := Y_X3_copyFrom) (As := [.inr x0]) rfl hd (by rw [hY]; exact lm_X10_111) mc_X3_copyFrom mi_X3_copyFrom ms_X3_copyFrom hst (fits_of hf hc hs) cf_3.2.1 (by decide) ho h rfl rfl w
theorem lm_X10_114 : Cond.methodLink RX10 114 yX7_reset ∈ gT := gT_mem (i := 470) (by decide +kernel) (by decide +kernel)
theorem k_X10_114 {G : GT} {Y : MD} {Z : ZT} {c0 s0 n pc : Nat} {μ : Mem} {L : List (Nat × AV)} {st : List AV} {a : Int} {Q : Nat → Mem → Prop} (hY : Y.1.cls = RX10) (hd : decode Y.2.1 pc = .ok (.invokevirtual 114, 3)) (hst : st.length ≤ 8) (hf : fitsB Y Y_X7_reset = true) (hc : c0 + 0 ≤ Y.2.2.2.2.2.2.1) (hs : s0 + 0 ≤ Y.2.2.2.2.2.2.2) (ho : gx G n μ → 0 ≤ a ∧ a < n ∧ SH a = (7, 5)) (h : CV G Y_X7_reset [.inr a] n μ Q) (w : ∀ (n' : Nat) (ν : Mem), Q n' ν → Wa G Y Z c0 s0 n' ν (pc + 3) L st) : Wa G Y Z c0 s0 n μ pc L (.inr a :: st) :=
  c_VV (Yc := Y_X7_reset) (As := []) rfl hd (by rw [hY]; exact lm_X10_114) mc_X7_reset mi_X7_reset ms_X7_reset hst (fits_of hf hc hs) cf_7.2.1 (by decide) ho h rfl rfl w
theorem lm_X10_117 : Cond.methodLink RX10 117 yX2_forgetAll ∈ gT := gT_mem (i := 474) (by decide +kernel) (by decide +kernel)
theorem k_X10_117 {G : GT} {Y : MD} {Z : ZT} {c0 s0 n pc : Nat} {μ : Mem} {L : List (Nat × AV)} {st : List AV} {a : Int} {Q : Nat → Mem → Prop} (hY : Y.1.cls = RX10) (hd : decode Y.2.1 pc = .ok (.invokevirtual 117, 3)) (hst : st.length ≤ 8) (hf : fitsB Y Y_X2_forgetAll = true) (hc : c0 + 0 ≤ Y.2.2.2.2.2.2.1) (hs : s0 + 0 ≤ Y.2.2.2.2.2.2.2) (ho : gx G n μ → 0 ≤ a ∧ a < n ∧ SH a = (2, 4)) (h : CV G Y_X2_forgetAll [.inr a] n μ Q) (w : ∀ (n' : Nat) (ν : Mem), Q n' ν → Wa G Y Z c0 s0 n' ν (pc + 3) L st) : Wa G Y Z c0 s0 n μ pc L (.inr a :: st) :=
  c_VV (Yc := Y_X2_forgetAll) (As := []) rfl hd (by rw [hY]; exact lm_X10_117) mc_X2_forgetAll mi_X2_forgetAll ms_X2_forgetAll hst (fits_of hf hc hs) cf_2.2.1 (by decide) ho h rfl rfl w
theorem lm_X10_120 : Cond.methodLink RX10 120 yX8_cut ∈ gT := gT_mem (i := 478) (by decide +kernel) (by decide +kernel)
theorem k_X10_120 {G : GT} {Y : MD} {Z : ZT} {c0 s0 n pc : Nat} {μ : Mem} {L : List (Nat × AV)} {st : List AV} {a : Int} {x0 : Int} {Q : Nat → Mem → Prop} (hY : Y.1.cls = RX10) (hd : decode Y.2.1 pc = .ok (.invokevirtual 120, 3)) (hst : st.length ≤ 8) (hf : fitsB Y Y_X8_cut = true) (hc : c0 + 0 ≤ Y.2.2.2.2.2.2.1) (hs : s0 + 0 ≤ Y.2.2.2.2.2.2.2) (ho : gx G n μ → 0 ≤ a ∧ a < n ∧ SH a = (8, 3)) (h : CV G Y_X8_cut [.inr a, .inl x0] n μ Q) (w : ∀ (n' : Nat) (ν : Mem), Q n' ν → Wa G Y Z c0 s0 n' ν (pc + 3) L st) : Wa G Y Z c0 s0 n μ pc L (.inl x0 :: .inr a :: st) :=
  c_VV (Yc := Y_X8_cut) (As := [.inl x0]) rfl hd (by rw [hY]; exact lm_X10_120) mc_X8_cut mi_X8_cut ms_X8_cut hst (fits_of hf hc hs) cf_8.2.1 (by decide) ho h rfl rfl w
theorem lm_X10_123 : Cond.methodLink RX10 123 yX3_hasContact ∈ gT := gT_mem (i := 487) (by decide +kernel) (by decide +kernel)
theorem k_X10_123 {G : GT} {Y : MD} {Z : ZT} {c0 s0 n pc : Nat} {μ : Mem} {L : List (Nat × AV)} {st : List AV} {a : Int} {x0 : Int} {Q : Int → Nat → Mem → Prop} (hY : Y.1.cls = RX10) (hd : decode Y.2.1 pc = .ok (.invokevirtual 123, 3)) (hst : st.length ≤ 8) (hf : fitsB Y Y_X3_hasContact = true) (hc : c0 + 0 ≤ Y.2.2.2.2.2.2.1) (hs : s0 + 0 ≤ Y.2.2.2.2.2.2.2) (ho : gx G n μ → 0 ≤ a ∧ a < n ∧ SH a = (3, 4)) (h : CI G Y_X3_hasContact [.inr a, .inl x0] n μ Q) (w : ∀ (x : Int) (n' : Nat) (ν : Mem), Q x n' ν → Wa G Y Z c0 s0 n' ν (pc + 3) L (.inl x :: st)) : Wa G Y Z c0 s0 n μ pc L (.inl x0 :: .inr a :: st) :=
  c_VI (Yc := Y_X3_hasContact) (As := [.inl x0]) rfl hd (by rw [hY]; exact lm_X10_123) mc_X3_hasContact mi_X3_hasContact ms_X3_hasContact hst (fits_of hf hc hs) cf_3.2.1 (by decide) ho h rfl rfl w
theorem lm_X10_127 : Cond.methodLink RX10 127 yX7_isMissed ∈ gT := gT_mem (i := 491) (by decide +kernel) (by decide +kernel)
theorem k_X10_127 {G : GT} {Y : MD} {Z : ZT} {c0 s0 n pc : Nat} {μ : Mem} {L : List (Nat × AV)} {st : List AV} {a : Int} {x0 : Int} {Q : Int → Nat → Mem → Prop} (hY : Y.1.cls = RX10) (hd : decode Y.2.1 pc = .ok (.invokevirtual 127, 3)) (hst : st.length ≤ 8) (hf : fitsB Y Y_X7_isMissed = true) (hc : c0 + 0 ≤ Y.2.2.2.2.2.2.1) (hs : s0 + 0 ≤ Y.2.2.2.2.2.2.2) (ho : gx G n μ → 0 ≤ a ∧ a < n ∧ SH a = (7, 5)) (h : CI G Y_X7_isMissed [.inr a, .inl x0] n μ Q) (w : ∀ (x : Int) (n' : Nat) (ν : Mem), Q x n' ν → Wa G Y Z c0 s0 n' ν (pc + 3) L (.inl x :: st)) : Wa G Y Z c0 s0 n μ pc L (.inl x0 :: .inr a :: st) :=
  c_VI (Yc := Y_X7_isMissed) (As := [.inl x0]) rfl hd (by rw [hY]; exact lm_X10_127) mc_X7_isMissed mi_X7_isMissed ms_X7_isMissed hst (fits_of hf hc hs) cf_7.2.1 (by decide) ho h rfl rfl w
theorem lm_X10_130 : Cond.methodLink RX10 130 yX3_contactAt ∈ gT := gT_mem (i := 495) (by decide +kernel) (by decide +kernel)
theorem k_X10_130 {G : GT} {Y : MD} {Z : ZT} {c0 s0 n pc : Nat} {μ : Mem} {L : List (Nat × AV)} {st : List AV} {a : Int} {x0 : Int} {Q : Int → Nat → Mem → Prop} (hY : Y.1.cls = RX10) (hd : decode Y.2.1 pc = .ok (.invokevirtual 130, 3)) (hst : st.length ≤ 8) (hf : fitsB Y Y_X3_contactAt = true) (hc : c0 + 0 ≤ Y.2.2.2.2.2.2.1) (hs : s0 + 0 ≤ Y.2.2.2.2.2.2.2) (ho : gx G n μ → 0 ≤ a ∧ a < n ∧ SH a = (3, 4)) (h : CR G Y_X3_contactAt [.inr a, .inl x0] n μ Q) (w : ∀ (x : Int) (n' : Nat) (ν : Mem), 0 ≤ x → Q x n' ν → Wa G Y Z c0 s0 n' ν (pc + 3) L (.inr x :: st)) : Wa G Y Z c0 s0 n μ pc L (.inl x0 :: .inr a :: st) :=
  c_VR (Yc := Y_X3_contactAt) (As := [.inl x0]) rfl hd (by rw [hY]; exact lm_X10_130) mc_X3_contactAt mi_X3_contactAt ms_X3_contactAt hst (fits_of hf hc hs) cf_3.2.1 (by decide) ho h rfl rfl w
theorem lm_X10_134 : Cond.methodLink RX10 134 yX1_property ∈ gT := gT_mem (i := 496) (by decide +kernel) (by decide +kernel)
theorem k_X10_134 {G : GT} {Y : MD} {Z : ZT} {c0 s0 n pc : Nat} {μ : Mem} {L : List (Nat × AV)} {st : List AV} {a : Int} {x0 : Int} {Q : Int → Nat → Mem → Prop} (hY : Y.1.cls = RX10) (hd : decode Y.2.1 pc = .ok (.invokevirtual 134, 3)) (hst : st.length ≤ 8) (hf : fitsB Y Y_X1_property = true) (hc : c0 + 0 ≤ Y.2.2.2.2.2.2.1) (hs : s0 + 0 ≤ Y.2.2.2.2.2.2.2) (ho : gx G n μ → 0 ≤ a ∧ a < n ∧ SH a = (1, 6)) (h : CI G Y_X1_property [.inr a, .inl x0] n μ Q) (w : ∀ (x : Int) (n' : Nat) (ν : Mem), Q x n' ν → Wa G Y Z c0 s0 n' ν (pc + 3) L (.inl x :: st)) : Wa G Y Z c0 s0 n μ pc L (.inl x0 :: .inr a :: st) :=
  c_VI (Yc := Y_X1_property) (As := [.inl x0]) rfl hd (by rw [hY]; exact lm_X10_134) mc_X1_property mi_X1_property ms_X1_property hst (fits_of hf hc hs) cf_1.2.1 (by decide) ho h rfl rfl w
theorem lm_X10_140 : Cond.methodLink RX10 140 yX10_isSendable ∈ gT := gT_mem (i := 504) (by decide +kernel) (by decide +kernel)
theorem k_X10_140 {G : GT} {Y : MD} {Z : ZT} {c0 s0 n pc : Nat} {μ : Mem} {L : List (Nat × AV)} {st : List AV} {a : Int} {x0 x1 x2 x3 : Int} {Q : Int → Nat → Mem → Prop} (hY : Y.1.cls = RX10) (hd : decode Y.2.1 pc = .ok (.invokevirtual 140, 3)) (hst : st.length ≤ 8) (hf : fitsB Y Y_X10_isSendable = true) (hc : c0 + 0 ≤ Y.2.2.2.2.2.2.1) (hs : s0 + 0 ≤ Y.2.2.2.2.2.2.2) (ho : gx G n μ → 0 ≤ a ∧ a < n ∧ SH a = (10, 12)) (h : CI G Y_X10_isSendable [.inr a, .inl x0, .inl x1, .inl x2, .inl x3] n μ Q) (w : ∀ (x : Int) (n' : Nat) (ν : Mem), Q x n' ν → Wa G Y Z c0 s0 n' ν (pc + 3) L (.inl x :: st)) : Wa G Y Z c0 s0 n μ pc L (.inl x3 :: .inl x2 :: .inl x1 :: .inl x0 :: .inr a :: st) :=
  c_VI (Yc := Y_X10_isSendable) (As := [.inl x0, .inl x1, .inl x2, .inl x3]) rfl hd (by rw [hY]; exact lm_X10_140) mc_X10_isSendable mi_X10_isSendable ms_X10_isSendable hst (fits_of hf hc hs) cf_10.2.1 (by decide) ho h rfl rfl w
theorem lm_X10_147 : Cond.methodLink RX10 147 yX2_remember ∈ gT := gT_mem (i := 512) (by decide +kernel) (by decide +kernel)
theorem k_X10_147 {G : GT} {Y : MD} {Z : ZT} {c0 s0 n pc : Nat} {μ : Mem} {L : List (Nat × AV)} {st : List AV} {a : Int} {x0 : Int} {Q : Nat → Mem → Prop} (hY : Y.1.cls = RX10) (hd : decode Y.2.1 pc = .ok (.invokevirtual 147, 3)) (hst : st.length ≤ 8) (hf : fitsB Y Y_X2_remember = true) (hc : c0 + 0 ≤ Y.2.2.2.2.2.2.1) (hs : s0 + 0 ≤ Y.2.2.2.2.2.2.2) (ho : gx G n μ → 0 ≤ a ∧ a < n ∧ SH a = (2, 4)) (h : CV G Y_X2_remember [.inr a, .inr x0] n μ Q) (w : ∀ (n' : Nat) (ν : Mem), Q n' ν → Wa G Y Z c0 s0 n' ν (pc + 3) L st) : Wa G Y Z c0 s0 n μ pc L (.inr x0 :: .inr a :: st) :=
  c_VV (Yc := Y_X2_remember) (As := [.inr x0]) rfl hd (by rw [hY]; exact lm_X10_147) mc_X2_remember mi_X2_remember ms_X2_remember hst (fits_of hf hc hs) cf_2.2.1 (by decide) ho h rfl rfl w
theorem lm_X10_151 : Cond.methodLink RX10 151 yX7_addBundle ∈ gT := gT_mem (i := 558) (by decide +kernel) (by decide +kernel)
theorem k_X10_151 {G : GT} {Y : MD} {Z : ZT} {c0 s0 n pc : Nat} {μ : Mem} {L : List (Nat × AV)} {st : List AV} {a : Int} {Q : Int → Nat → Mem → Prop} (hY : Y.1.cls = RX10) (hd : decode Y.2.1 pc = .ok (.invokevirtual 151, 3)) (hst : st.length ≤ 8) (hf : fitsB Y Y_X7_addBundle = true) (hc : c0 + 0 ≤ Y.2.2.2.2.2.2.1) (hs : s0 + 0 ≤ Y.2.2.2.2.2.2.2) (ho : gx G n μ → 0 ≤ a ∧ a < n ∧ SH a = (7, 5)) (h : CI G Y_X7_addBundle [.inr a] n μ Q) (w : ∀ (x : Int) (n' : Nat) (ν : Mem), Q x n' ν → Wa G Y Z c0 s0 n' ν (pc + 3) L (.inl x :: st)) : Wa G Y Z c0 s0 n μ pc L (.inr a :: st) :=
  c_VI (Yc := Y_X7_addBundle) (As := []) rfl hd (by rw [hY]; exact lm_X10_151) mc_X7_addBundle mi_X7_addBundle ms_X7_addBundle hst (fits_of hf hc hs) cf_7.2.1 (by decide) ho h rfl rfl w
theorem lm_X10_154 : Cond.methodLink RX10 154 yX7_bundleAt ∈ gT := gT_mem (i := 562) (by decide +kernel) (by decide +kernel)
theorem k_X10_154 {G : GT} {Y : MD} {Z : ZT} {c0 s0 n pc : Nat} {μ : Mem} {L : List (Nat × AV)} {st : List AV} {a : Int} {x0 : Int} {Q : Int → Nat → Mem → Prop} (hY : Y.1.cls = RX10) (hd : decode Y.2.1 pc = .ok (.invokevirtual 154, 3)) (hst : st.length ≤ 8) (hf : fitsB Y Y_X7_bundleAt = true) (hc : c0 + 0 ≤ Y.2.2.2.2.2.2.1) (hs : s0 + 0 ≤ Y.2.2.2.2.2.2.2) (ho : gx G n μ → 0 ≤ a ∧ a < n ∧ SH a = (7, 5)) (h : CR G Y_X7_bundleAt [.inr a, .inl x0] n μ Q) (w : ∀ (x : Int) (n' : Nat) (ν : Mem), 0 ≤ x → Q x n' ν → Wa G Y Z c0 s0 n' ν (pc + 3) L (.inr x :: st)) : Wa G Y Z c0 s0 n μ pc L (.inl x0 :: .inr a :: st) :=
  c_VR (Yc := Y_X7_bundleAt) (As := [.inl x0]) rfl hd (by rw [hY]; exact lm_X10_154) mc_X7_bundleAt mi_X7_bundleAt ms_X7_bundleAt hst (fits_of hf hc hs) cf_7.2.1 (by decide) ho h rfl rfl w
theorem lm_X10_158 : Cond.methodLink RX10 158 yX0_start ∈ gT := gT_mem (i := 563) (by decide +kernel) (by decide +kernel)
theorem k_X10_158 {G : GT} {Y : MD} {Z : ZT} {c0 s0 n pc : Nat} {μ : Mem} {L : List (Nat × AV)} {st : List AV} {a : Int} {x0 x1 x2 x3 x4 : Int} {Q : Nat → Mem → Prop} (hY : Y.1.cls = RX10) (hd : decode Y.2.1 pc = .ok (.invokevirtual 158, 3)) (hst : st.length ≤ 8) (hf : fitsB Y Y_X0_start = true) (hc : c0 + 0 ≤ Y.2.2.2.2.2.2.1) (hs : s0 + 0 ≤ Y.2.2.2.2.2.2.2) (ho : gx G n μ → 0 ≤ a ∧ a < n ∧ SH a = (0, 9)) (h : CV G Y_X0_start [.inr a, .inl x0, .inl x1, .inl x2, .inl x3, .inl x4] n μ Q) (w : ∀ (n' : Nat) (ν : Mem), Q n' ν → Wa G Y Z c0 s0 n' ν (pc + 3) L st) : Wa G Y Z c0 s0 n μ pc L (.inl x4 :: .inl x3 :: .inl x2 :: .inl x1 :: .inl x0 :: .inr a :: st) :=
  c_VV (Yc := Y_X0_start) (As := [.inl x0, .inl x1, .inl x2, .inl x3, .inl x4]) rfl hd (by rw [hY]; exact lm_X10_158) mc_X0_start mi_X0_start ms_X0_start hst (fits_of hf hc hs) cf_0.2.1 (by decide) ho h rfl rfl w
theorem lm_X10_164 : Cond.methodLink RX10 164 yX7_isOpen ∈ gT := gT_mem (i := 564) (by decide +kernel) (by decide +kernel)
theorem k_X10_164 {G : GT} {Y : MD} {Z : ZT} {c0 s0 n pc : Nat} {μ : Mem} {L : List (Nat × AV)} {st : List AV} {a : Int} {x0 : Int} {Q : Int → Nat → Mem → Prop} (hY : Y.1.cls = RX10) (hd : decode Y.2.1 pc = .ok (.invokevirtual 164, 3)) (hst : st.length ≤ 8) (hf : fitsB Y Y_X7_isOpen = true) (hc : c0 + 0 ≤ Y.2.2.2.2.2.2.1) (hs : s0 + 0 ≤ Y.2.2.2.2.2.2.2) (ho : gx G n μ → 0 ≤ a ∧ a < n ∧ SH a = (7, 5)) (h : CI G Y_X7_isOpen [.inr a, .inl x0] n μ Q) (w : ∀ (x : Int) (n' : Nat) (ν : Mem), Q x n' ν → Wa G Y Z c0 s0 n' ν (pc + 3) L (.inl x :: st)) : Wa G Y Z c0 s0 n μ pc L (.inl x0 :: .inr a :: st) :=
  c_VI (Yc := Y_X7_isOpen) (As := [.inl x0]) rfl hd (by rw [hY]; exact lm_X10_164) mc_X7_isOpen mi_X7_isOpen ms_X7_isOpen hst (fits_of hf hc hs) cf_7.2.1 (by decide) ho h rfl rfl w
theorem lm_X10_167 : Cond.methodLink RX10 167 yX5_planAll ∈ gT := gT_mem (i := 578) (by decide +kernel) (by decide +kernel)
theorem k_X10_167 {G : GT} {Y : MD} {Z : ZT} {c0 s0 n pc : Nat} {μ : Mem} {L : List (Nat × AV)} {st : List AV} {a : Int} {x0 x1 : Int} {Q : Nat → Mem → Prop} (hY : Y.1.cls = RX10) (hd : decode Y.2.1 pc = .ok (.invokevirtual 167, 3)) (hst : st.length ≤ 8) (hf : fitsB Y Y_X5_planAll = true) (hc : c0 + 0 ≤ Y.2.2.2.2.2.2.1) (hs : s0 + 0 ≤ Y.2.2.2.2.2.2.2) (ho : gx G n μ → 0 ≤ a ∧ a < n ∧ SH a = (5, 1)) (h : CV G Y_X5_planAll [.inr a, .inr x0, .inl x1] n μ Q) (w : ∀ (n' : Nat) (ν : Mem), Q n' ν → Wa G Y Z c0 s0 n' ν (pc + 3) L st) : Wa G Y Z c0 s0 n μ pc L (.inl x1 :: .inr x0 :: .inr a :: st) :=
  c_VV (Yc := Y_X5_planAll) (As := [.inr x0, .inl x1]) rfl hd (by rw [hY]; exact lm_X10_167) mc_X5_planAll mi_X5_planAll ms_X5_planAll hst (fits_of hf hc hs) cf_5.2.1 (by decide) ho h rfl rfl w
theorem lm_X10_171 : Cond.methodLink RX10 171 yX7_tickAtGoal ∈ gT := gT_mem (i := 657) (by decide +kernel) (by decide +kernel)
theorem k_X10_171 {G : GT} {Y : MD} {Z : ZT} {c0 s0 n pc : Nat} {μ : Mem} {L : List (Nat × AV)} {st : List AV} {a : Int} {x0 : Int} {Q : Int → Nat → Mem → Prop} (hY : Y.1.cls = RX10) (hd : decode Y.2.1 pc = .ok (.invokevirtual 171, 3)) (hst : st.length ≤ 8) (hf : fitsB Y Y_X7_tickAtGoal = true) (hc : c0 + 0 ≤ Y.2.2.2.2.2.2.1) (hs : s0 + 0 ≤ Y.2.2.2.2.2.2.2) (ho : gx G n μ → 0 ≤ a ∧ a < n ∧ SH a = (7, 5)) (h : CI G Y_X7_tickAtGoal [.inr a, .inl x0] n μ Q) (w : ∀ (x : Int) (n' : Nat) (ν : Mem), Q x n' ν → Wa G Y Z c0 s0 n' ν (pc + 3) L (.inl x :: st)) : Wa G Y Z c0 s0 n μ pc L (.inl x0 :: .inr a :: st) :=
  c_VI (Yc := Y_X7_tickAtGoal) (As := [.inl x0]) rfl hd (by rw [hY]; exact lm_X10_171) mc_X7_tickAtGoal mi_X7_tickAtGoal ms_X7_tickAtGoal hst (fits_of hf hc hs) cf_7.2.1 (by decide) ho h rfl rfl w
theorem lm_X10_174 : Cond.methodLink RX10 174 yX7_hasBundle ∈ gT := gT_mem (i := 666) (by decide +kernel) (by decide +kernel)
theorem k_X10_174 {G : GT} {Y : MD} {Z : ZT} {c0 s0 n pc : Nat} {μ : Mem} {L : List (Nat × AV)} {st : List AV} {a : Int} {x0 : Int} {Q : Int → Nat → Mem → Prop} (hY : Y.1.cls = RX10) (hd : decode Y.2.1 pc = .ok (.invokevirtual 174, 3)) (hst : st.length ≤ 8) (hf : fitsB Y Y_X7_hasBundle = true) (hc : c0 + 0 ≤ Y.2.2.2.2.2.2.1) (hs : s0 + 0 ≤ Y.2.2.2.2.2.2.2) (ho : gx G n μ → 0 ≤ a ∧ a < n ∧ SH a = (7, 5)) (h : CI G Y_X7_hasBundle [.inr a, .inl x0] n μ Q) (w : ∀ (x : Int) (n' : Nat) (ν : Mem), Q x n' ν → Wa G Y Z c0 s0 n' ν (pc + 3) L (.inl x :: st)) : Wa G Y Z c0 s0 n μ pc L (.inl x0 :: .inr a :: st) :=
  c_VI (Yc := Y_X7_hasBundle) (As := [.inl x0]) rfl hd (by rw [hY]; exact lm_X10_174) mc_X7_hasBundle mi_X7_hasBundle ms_X7_hasBundle hst (fits_of hf hc hs) cf_7.2.1 (by decide) ho h rfl rfl w
theorem lm_X10_180 : Cond.methodLink RX10 180 yX0_drop ∈ gT := gT_mem (i := 670) (by decide +kernel) (by decide +kernel)
theorem k_X10_180 {G : GT} {Y : MD} {Z : ZT} {c0 s0 n pc : Nat} {μ : Mem} {L : List (Nat × AV)} {st : List AV} {a : Int} {x0 : Int} {Q : Nat → Mem → Prop} (hY : Y.1.cls = RX10) (hd : decode Y.2.1 pc = .ok (.invokevirtual 180, 3)) (hst : st.length ≤ 8) (hf : fitsB Y Y_X0_drop = true) (hc : c0 + 0 ≤ Y.2.2.2.2.2.2.1) (hs : s0 + 0 ≤ Y.2.2.2.2.2.2.2) (ho : gx G n μ → 0 ≤ a ∧ a < n ∧ SH a = (0, 9)) (h : CV G Y_X0_drop [.inr a, .inl x0] n μ Q) (w : ∀ (n' : Nat) (ν : Mem), Q n' ν → Wa G Y Z c0 s0 n' ν (pc + 3) L st) : Wa G Y Z c0 s0 n μ pc L (.inl x0 :: .inr a :: st) :=
  c_VV (Yc := Y_X0_drop) (As := [.inl x0]) rfl hd (by rw [hY]; exact lm_X10_180) mc_X0_drop mi_X0_drop ms_X0_drop hst (fits_of hf hc hs) cf_0.2.1 (by decide) ho h rfl rfl w
theorem lm_X10_183 : Cond.methodLink RX10 183 yX7_advance ∈ gT := gT_mem (i := 679) (by decide +kernel) (by decide +kernel)
theorem k_X10_183 {G : GT} {Y : MD} {Z : ZT} {c0 s0 n pc : Nat} {μ : Mem} {L : List (Nat × AV)} {st : List AV} {a : Int} {x0 : Int} {Q : Nat → Mem → Prop} (hY : Y.1.cls = RX10) (hd : decode Y.2.1 pc = .ok (.invokevirtual 183, 3)) (hst : st.length ≤ 8) (hf : fitsB Y Y_X7_advance = true) (hc : c0 + 0 ≤ Y.2.2.2.2.2.2.1) (hs : s0 + 0 ≤ Y.2.2.2.2.2.2.2) (ho : gx G n μ → 0 ≤ a ∧ a < n ∧ SH a = (7, 5)) (h : CV G Y_X7_advance [.inr a, .inl x0] n μ Q) (w : ∀ (n' : Nat) (ν : Mem), Q n' ν → Wa G Y Z c0 s0 n' ν (pc + 3) L st) : Wa G Y Z c0 s0 n μ pc L (.inl x0 :: .inr a :: st) :=
  c_VV (Yc := Y_X7_advance) (As := [.inl x0]) rfl hd (by rw [hY]; exact lm_X10_183) mc_X7_advance mi_X7_advance ms_X7_advance hst (fits_of hf hc hs) cf_7.2.1 (by decide) ho h rfl rfl w
theorem lm_X10_186 : Cond.methodLink RX10 186 yX7_lose ∈ gT := gT_mem (i := 696) (by decide +kernel) (by decide +kernel)
theorem k_X10_186 {G : GT} {Y : MD} {Z : ZT} {c0 s0 n pc : Nat} {μ : Mem} {L : List (Nat × AV)} {st : List AV} {a : Int} {x0 : Int} {Q : Int → Nat → Mem → Prop} (hY : Y.1.cls = RX10) (hd : decode Y.2.1 pc = .ok (.invokevirtual 186, 3)) (hst : st.length ≤ 8) (hf : fitsB Y Y_X7_lose = true) (hc : c0 + 0 ≤ Y.2.2.2.2.2.2.1) (hs : s0 + 0 ≤ Y.2.2.2.2.2.2.2) (ho : gx G n μ → 0 ≤ a ∧ a < n ∧ SH a = (7, 5)) (h : CI G Y_X7_lose [.inr a, .inl x0] n μ Q) (w : ∀ (x : Int) (n' : Nat) (ν : Mem), Q x n' ν → Wa G Y Z c0 s0 n' ν (pc + 3) L (.inl x :: st)) : Wa G Y Z c0 s0 n μ pc L (.inl x0 :: .inr a :: st) :=
  c_VI (Yc := Y_X7_lose) (As := [.inl x0]) rfl hd (by rw [hY]; exact lm_X10_186) mc_X7_lose mi_X7_lose ms_X7_lose hst (fits_of hf hc hs) cf_7.2.1 (by decide) ho h rfl rfl w
theorem lm_X10_189 : Cond.methodLink RX10 189 yX7_countStanding ∈ gT := gT_mem (i := 705) (by decide +kernel) (by decide +kernel)
theorem k_X10_189 {G : GT} {Y : MD} {Z : ZT} {c0 s0 n pc : Nat} {μ : Mem} {L : List (Nat × AV)} {st : List AV} {a : Int} {x0 : Int} {Q : Int → Nat → Mem → Prop} (hY : Y.1.cls = RX10) (hd : decode Y.2.1 pc = .ok (.invokevirtual 189, 3)) (hst : st.length ≤ 8) (hf : fitsB Y Y_X7_countStanding = true) (hc : c0 + 0 ≤ Y.2.2.2.2.2.2.1) (hs : s0 + 0 ≤ Y.2.2.2.2.2.2.2) (ho : gx G n μ → 0 ≤ a ∧ a < n ∧ SH a = (7, 5)) (h : CI G Y_X7_countStanding [.inr a, .inl x0] n μ Q) (w : ∀ (x : Int) (n' : Nat) (ν : Mem), Q x n' ν → Wa G Y Z c0 s0 n' ν (pc + 3) L (.inl x :: st)) : Wa G Y Z c0 s0 n μ pc L (.inl x0 :: .inr a :: st) :=
  c_VI (Yc := Y_X7_countStanding) (As := [.inl x0]) rfl hd (by rw [hY]; exact lm_X10_189) mc_X7_countStanding mi_X7_countStanding ms_X7_countStanding hst (fits_of hf hc hs) cf_7.2.1 (by decide) ho h rfl rfl w
theorem lm_X10_192 : Cond.methodLink RX10 192 yX7_regain ∈ gT := gT_mem (i := 723) (by decide +kernel) (by decide +kernel)
theorem k_X10_192 {G : GT} {Y : MD} {Z : ZT} {c0 s0 n pc : Nat} {μ : Mem} {L : List (Nat × AV)} {st : List AV} {a : Int} {x0 : Int} {Q : Int → Nat → Mem → Prop} (hY : Y.1.cls = RX10) (hd : decode Y.2.1 pc = .ok (.invokevirtual 192, 3)) (hst : st.length ≤ 8) (hf : fitsB Y Y_X7_regain = true) (hc : c0 + 0 ≤ Y.2.2.2.2.2.2.1) (hs : s0 + 0 ≤ Y.2.2.2.2.2.2.2) (ho : gx G n μ → 0 ≤ a ∧ a < n ∧ SH a = (7, 5)) (h : CI G Y_X7_regain [.inr a, .inl x0] n μ Q) (w : ∀ (x : Int) (n' : Nat) (ν : Mem), Q x n' ν → Wa G Y Z c0 s0 n' ν (pc + 3) L (.inl x :: st)) : Wa G Y Z c0 s0 n μ pc L (.inl x0 :: .inr a :: st) :=
  c_VI (Yc := Y_X7_regain) (As := [.inl x0]) rfl hd (by rw [hY]; exact lm_X10_192) mc_X7_regain mi_X7_regain ms_X7_regain hst (fits_of hf hc hs) cf_7.2.1 (by decide) ho h rfl rfl w
theorem lm_X10_198 : Cond.methodLink RX10 198 yX2_takeBack ∈ gT := gT_mem (i := 731) (by decide +kernel) (by decide +kernel)
theorem k_X10_198 {G : GT} {Y : MD} {Z : ZT} {c0 s0 n pc : Nat} {μ : Mem} {L : List (Nat × AV)} {st : List AV} {a : Int} {x0 : Int} {Q : Nat → Mem → Prop} (hY : Y.1.cls = RX10) (hd : decode Y.2.1 pc = .ok (.invokevirtual 198, 3)) (hst : st.length ≤ 8) (hf : fitsB Y Y_X2_takeBack = true) (hc : c0 + 0 ≤ Y.2.2.2.2.2.2.1) (hs : s0 + 0 ≤ Y.2.2.2.2.2.2.2) (ho : gx G n μ → 0 ≤ a ∧ a < n ∧ SH a = (2, 4)) (h : CV G Y_X2_takeBack [.inr a, .inr x0] n μ Q) (w : ∀ (n' : Nat) (ν : Mem), Q n' ν → Wa G Y Z c0 s0 n' ν (pc + 3) L st) : Wa G Y Z c0 s0 n μ pc L (.inr x0 :: .inr a :: st) :=
  c_VV (Yc := Y_X2_takeBack) (As := [.inr x0]) rfl hd (by rw [hY]; exact lm_X10_198) mc_X2_takeBack mi_X2_takeBack ms_X2_takeBack hst (fits_of hf hc hs) cf_2.2.1 (by decide) ho h rfl rfl w
theorem lm_X10_201 : Cond.methodLink RX10 201 yX0_property ∈ gT := gT_mem (i := 739) (by decide +kernel) (by decide +kernel)
theorem k_X10_201 {G : GT} {Y : MD} {Z : ZT} {c0 s0 n pc : Nat} {μ : Mem} {L : List (Nat × AV)} {st : List AV} {a : Int} {x0 x1 : Int} {Q : Int → Nat → Mem → Prop} (hY : Y.1.cls = RX10) (hd : decode Y.2.1 pc = .ok (.invokevirtual 201, 3)) (hst : st.length ≤ 8) (hf : fitsB Y Y_X0_property = true) (hc : c0 + 0 ≤ Y.2.2.2.2.2.2.1) (hs : s0 + 0 ≤ Y.2.2.2.2.2.2.2) (ho : gx G n μ → 0 ≤ a ∧ a < n ∧ SH a = (0, 9)) (h : CI G Y_X0_property [.inr a, .inl x0, .inl x1] n μ Q) (w : ∀ (x : Int) (n' : Nat) (ν : Mem), Q x n' ν → Wa G Y Z c0 s0 n' ν (pc + 3) L (.inl x :: st)) : Wa G Y Z c0 s0 n μ pc L (.inl x1 :: .inl x0 :: .inr a :: st) :=
  c_VI (Yc := Y_X0_property) (As := [.inl x0, .inl x1]) rfl hd (by rw [hY]; exact lm_X10_201) mc_X0_property mi_X0_property ms_X0_property hst (fits_of hf hc hs) cf_0.2.1 (by decide) ho h rfl rfl w
theorem lm_X10_207 : Cond.methodLink RX10 207 yX8_at ∈ gT := gT_mem (i := 749) (by decide +kernel) (by decide +kernel)
theorem k_X10_207 {G : GT} {Y : MD} {Z : ZT} {c0 s0 n pc : Nat} {μ : Mem} {L : List (Nat × AV)} {st : List AV} {a : Int} {x0 x1 : Int} {Q : Int → Nat → Mem → Prop} (hY : Y.1.cls = RX10) (hd : decode Y.2.1 pc = .ok (.invokevirtual 207, 3)) (hst : st.length ≤ 8) (hf : fitsB Y Y_X8_at = true) (hc : c0 + 0 ≤ Y.2.2.2.2.2.2.1) (hs : s0 + 0 ≤ Y.2.2.2.2.2.2.2) (ho : gx G n μ → 0 ≤ a ∧ a < n ∧ SH a = (8, 3)) (h : CI G Y_X8_at [.inr a, .inl x0, .inl x1] n μ Q) (w : ∀ (x : Int) (n' : Nat) (ν : Mem), Q x n' ν → Wa G Y Z c0 s0 n' ν (pc + 3) L (.inl x :: st)) : Wa G Y Z c0 s0 n μ pc L (.inl x1 :: .inl x0 :: .inr a :: st) :=
  c_VI (Yc := Y_X8_at) (As := [.inl x0, .inl x1]) rfl hd (by rw [hY]; exact lm_X10_207) mc_X8_at mi_X8_at ms_X8_at hst (fits_of hf hc hs) cf_8.2.1 (by decide) ho h rfl rfl w
theorem lm_X10_210 : Cond.methodLink RX10 210 yX7_takerOf ∈ gT := gT_mem (i := 754) (by decide +kernel) (by decide +kernel)
theorem k_X10_210 {G : GT} {Y : MD} {Z : ZT} {c0 s0 n pc : Nat} {μ : Mem} {L : List (Nat × AV)} {st : List AV} {a : Int} {x0 x1 : Int} {Q : Int → Nat → Mem → Prop} (hY : Y.1.cls = RX10) (hd : decode Y.2.1 pc = .ok (.invokevirtual 210, 3)) (hst : st.length ≤ 8) (hf : fitsB Y Y_X7_takerOf = true) (hc : c0 + 0 ≤ Y.2.2.2.2.2.2.1) (hs : s0 + 0 ≤ Y.2.2.2.2.2.2.2) (ho : gx G n μ → 0 ≤ a ∧ a < n ∧ SH a = (7, 5)) (h : CI G Y_X7_takerOf [.inr a, .inl x0, .inl x1] n μ Q) (w : ∀ (x : Int) (n' : Nat) (ν : Mem), Q x n' ν → Wa G Y Z c0 s0 n' ν (pc + 3) L (.inl x :: st)) : Wa G Y Z c0 s0 n μ pc L (.inl x1 :: .inl x0 :: .inr a :: st) :=
  c_VI (Yc := Y_X7_takerOf) (As := [.inl x0, .inl x1]) rfl hd (by rw [hY]; exact lm_X10_210) mc_X7_takerOf mi_X7_takerOf ms_X7_takerOf hst (fits_of hf hc hs) cf_7.2.1 (by decide) ho h rfl rfl w
theorem lm_X10_213 : Cond.methodLink RX10 213 yX6_lookAt ∈ gT := gT_mem (i := 766) (by decide +kernel) (by decide +kernel)
theorem k_X10_213 {G : GT} {Y : MD} {Z : ZT} {c0 s0 n pc : Nat} {μ : Mem} {L : List (Nat × AV)} {st : List AV} {a : Int} {x0 x1 : Int} {Q : Nat → Mem → Prop} (hY : Y.1.cls = RX10) (hd : decode Y.2.1 pc = .ok (.invokevirtual 213, 3)) (hst : st.length ≤ 8) (hf : fitsB Y Y_X6_lookAt = true) (hc : c0 + 0 ≤ Y.2.2.2.2.2.2.1) (hs : s0 + 0 ≤ Y.2.2.2.2.2.2.2) (ho : gx G n μ → 0 ≤ a ∧ a < n ∧ SH a = (6, 8)) (h : CV G Y_X6_lookAt [.inr a, .inr x0, .inl x1] n μ Q) (w : ∀ (n' : Nat) (ν : Mem), Q n' ν → Wa G Y Z c0 s0 n' ν (pc + 3) L st) : Wa G Y Z c0 s0 n μ pc L (.inl x1 :: .inr x0 :: .inr a :: st) :=
  c_VV (Yc := Y_X6_lookAt) (As := [.inr x0, .inl x1]) rfl hd (by rw [hY]; exact lm_X10_213) mc_X6_lookAt mi_X6_lookAt ms_X6_lookAt hst (fits_of hf hc hs) cf_6.2.1 (by decide) ho h rfl rfl w
theorem lm_X10_216 : Cond.methodLink RX10 216 yX10_predict ∈ gT := gT_mem (i := 767) (by decide +kernel) (by decide +kernel)
theorem k_X10_216 {G : GT} {Y : MD} {Z : ZT} {c0 s0 n pc : Nat} {μ : Mem} {L : List (Nat × AV)} {st : List AV} {a : Int} {x0 x1 x2 x3 : Int} {Q : Int → Nat → Mem → Prop} (hY : Y.1.cls = RX10) (hd : decode Y.2.1 pc = .ok (.invokevirtual 216, 3)) (hst : st.length ≤ 8) (hf : fitsB Y Y_X10_predict = true) (hc : c0 + 0 ≤ Y.2.2.2.2.2.2.1) (hs : s0 + 0 ≤ Y.2.2.2.2.2.2.2) (ho : gx G n μ → 0 ≤ a ∧ a < n ∧ SH a = (10, 12)) (h : CI G Y_X10_predict [.inr a, .inl x0, .inl x1, .inl x2, .inl x3] n μ Q) (w : ∀ (x : Int) (n' : Nat) (ν : Mem), Q x n' ν → Wa G Y Z c0 s0 n' ν (pc + 3) L (.inl x :: st)) : Wa G Y Z c0 s0 n μ pc L (.inl x3 :: .inl x2 :: .inl x1 :: .inl x0 :: .inr a :: st) :=
  c_VI (Yc := Y_X10_predict) (As := [.inl x0, .inl x1, .inl x2, .inl x3]) rfl hd (by rw [hY]; exact lm_X10_216) mc_X10_predict mi_X10_predict ms_X10_predict hst (fits_of hf hc hs) cf_10.2.1 (by decide) ho h rfl rfl w
theorem lm_X10_223 : Cond.methodLink RX10 223 yX7_copyFrom ∈ gT := gT_mem (i := 780) (by decide +kernel) (by decide +kernel)
theorem k_X10_223 {G : GT} {Y : MD} {Z : ZT} {c0 s0 n pc : Nat} {μ : Mem} {L : List (Nat × AV)} {st : List AV} {a : Int} {x0 : Int} {Q : Nat → Mem → Prop} (hY : Y.1.cls = RX10) (hd : decode Y.2.1 pc = .ok (.invokevirtual 223, 3)) (hst : st.length ≤ 8) (hf : fitsB Y Y_X7_copyFrom = true) (hc : c0 + 0 ≤ Y.2.2.2.2.2.2.1) (hs : s0 + 0 ≤ Y.2.2.2.2.2.2.2) (ho : gx G n μ → 0 ≤ a ∧ a < n ∧ SH a = (7, 5)) (h : CV G Y_X7_copyFrom [.inr a, .inr x0] n μ Q) (w : ∀ (n' : Nat) (ν : Mem), Q n' ν → Wa G Y Z c0 s0 n' ν (pc + 3) L st) : Wa G Y Z c0 s0 n μ pc L (.inr x0 :: .inr a :: st) :=
  c_VV (Yc := Y_X7_copyFrom) (As := [.inr x0]) rfl hd (by rw [hY]; exact lm_X10_223) mc_X7_copyFrom mi_X7_copyFrom ms_X7_copyFrom hst (fits_of hf hc hs) cf_7.2.1 (by decide) ho h rfl rfl w
theorem lm_X10_225 : Cond.methodLink RX10 225 yX3_hasNode ∈ gT := gT_mem (i := 508) (by decide +kernel) (by decide +kernel)
theorem k_X10_225 {G : GT} {Y : MD} {Z : ZT} {c0 s0 n pc : Nat} {μ : Mem} {L : List (Nat × AV)} {st : List AV} {a : Int} {x0 : Int} {Q : Int → Nat → Mem → Prop} (hY : Y.1.cls = RX10) (hd : decode Y.2.1 pc = .ok (.invokevirtual 225, 3)) (hst : st.length ≤ 8) (hf : fitsB Y Y_X3_hasNode = true) (hc : c0 + 0 ≤ Y.2.2.2.2.2.2.1) (hs : s0 + 0 ≤ Y.2.2.2.2.2.2.2) (ho : gx G n μ → 0 ≤ a ∧ a < n ∧ SH a = (3, 4)) (h : CI G Y_X3_hasNode [.inr a, .inl x0] n μ Q) (w : ∀ (x : Int) (n' : Nat) (ν : Mem), Q x n' ν → Wa G Y Z c0 s0 n' ν (pc + 3) L (.inl x :: st)) : Wa G Y Z c0 s0 n μ pc L (.inl x0 :: .inr a :: st) :=
  c_VI (Yc := Y_X3_hasNode) (As := [.inl x0]) rfl hd (by rw [hY]; exact lm_X10_225) mc_X3_hasNode mi_X3_hasNode ms_X3_hasNode hst (fits_of hf hc hs) cf_3.2.1 (by decide) ho h rfl rfl w
theorem lm_X10_231 : Cond.methodLink RX10 231 yX8_addRow ∈ gT := gT_mem (i := 785) (by decide +kernel) (by decide +kernel)
theorem k_X10_231 {G : GT} {Y : MD} {Z : ZT} {c0 s0 n pc : Nat} {μ : Mem} {L : List (Nat × AV)} {st : List AV} {a : Int} {Q : Int → Nat → Mem → Prop} (hY : Y.1.cls = RX10) (hd : decode Y.2.1 pc = .ok (.invokevirtual 231, 3)) (hst : st.length ≤ 8) (hf : fitsB Y Y_X8_addRow = true) (hc : c0 + 0 ≤ Y.2.2.2.2.2.2.1) (hs : s0 + 0 ≤ Y.2.2.2.2.2.2.2) (ho : gx G n μ → 0 ≤ a ∧ a < n ∧ SH a = (8, 3)) (h : CI G Y_X8_addRow [.inr a] n μ Q) (w : ∀ (x : Int) (n' : Nat) (ν : Mem), Q x n' ν → Wa G Y Z c0 s0 n' ν (pc + 3) L (.inl x :: st)) : Wa G Y Z c0 s0 n μ pc L (.inr a :: st) :=
  c_VI (Yc := Y_X8_addRow) (As := []) rfl hd (by rw [hY]; exact lm_X10_231) mc_X8_addRow mi_X8_addRow ms_X8_addRow hst (fits_of hf hc hs) cf_8.2.1 (by decide) ho h rfl rfl w
theorem lm_X10_234 : Cond.methodLink RX10 234 yX8_put ∈ gT := gT_mem (i := 786) (by decide +kernel) (by decide +kernel)
theorem k_X10_234 {G : GT} {Y : MD} {Z : ZT} {c0 s0 n pc : Nat} {μ : Mem} {L : List (Nat × AV)} {st : List AV} {a : Int} {x0 x1 x2 : Int} {Q : Nat → Mem → Prop} (hY : Y.1.cls = RX10) (hd : decode Y.2.1 pc = .ok (.invokevirtual 234, 3)) (hst : st.length ≤ 8) (hf : fitsB Y Y_X8_put = true) (hc : c0 + 0 ≤ Y.2.2.2.2.2.2.1) (hs : s0 + 0 ≤ Y.2.2.2.2.2.2.2) (ho : gx G n μ → 0 ≤ a ∧ a < n ∧ SH a = (8, 3)) (h : CV G Y_X8_put [.inr a, .inl x0, .inl x1, .inl x2] n μ Q) (w : ∀ (n' : Nat) (ν : Mem), Q n' ν → Wa G Y Z c0 s0 n' ν (pc + 3) L st) : Wa G Y Z c0 s0 n μ pc L (.inl x2 :: .inl x1 :: .inl x0 :: .inr a :: st) :=
  c_VV (Yc := Y_X8_put) (As := [.inl x0, .inl x1, .inl x2]) rfl hd (by rw [hY]; exact lm_X10_234) mc_X8_put mi_X8_put ms_X8_put hst (fits_of hf hc hs) cf_8.2.1 (by decide) ho h rfl rfl w
theorem lm_X10_238 : Cond.methodLink RX10 238 yX10_explainsAll ∈ gT := gT_mem (i := 795) (by decide +kernel) (by decide +kernel)
theorem k_X10_238 {G : GT} {Y : MD} {Z : ZT} {c0 s0 n pc : Nat} {μ : Mem} {L : List (Nat × AV)} {st : List AV} {a : Int} {x0 : Int} {Q : Int → Nat → Mem → Prop} (hY : Y.1.cls = RX10) (hd : decode Y.2.1 pc = .ok (.invokevirtual 238, 3)) (hst : st.length ≤ 8) (hf : fitsB Y Y_X10_explainsAll = true) (hc : c0 + 0 ≤ Y.2.2.2.2.2.2.1) (hs : s0 + 0 ≤ Y.2.2.2.2.2.2.2) (ho : gx G n μ → 0 ≤ a ∧ a < n ∧ SH a = (10, 12)) (h : CI G Y_X10_explainsAll [.inr a, .inl x0] n μ Q) (w : ∀ (x : Int) (n' : Nat) (ν : Mem), Q x n' ν → Wa G Y Z c0 s0 n' ν (pc + 3) L (.inl x :: st)) : Wa G Y Z c0 s0 n μ pc L (.inl x0 :: .inr a :: st) :=
  c_VI (Yc := Y_X10_explainsAll) (As := [.inl x0]) rfl hd (by rw [hY]; exact lm_X10_238) mc_X10_explainsAll mi_X10_explainsAll ms_X10_explainsAll hst (fits_of hf hc hs) cf_10.2.1 (by decide) ho h rfl rfl w
theorem lm_X10_241 : Cond.methodLink RX10 241 yX10_imageAt ∈ gT := gT_mem (i := 803) (by decide +kernel) (by decide +kernel)
theorem k_X10_241 {G : GT} {Y : MD} {Z : ZT} {c0 s0 n pc : Nat} {μ : Mem} {L : List (Nat × AV)} {st : List AV} {a : Int} {x0 : Int} {Q : Int → Nat → Mem → Prop} (hY : Y.1.cls = RX10) (hd : decode Y.2.1 pc = .ok (.invokevirtual 241, 3)) (hst : st.length ≤ 8) (hf : fitsB Y Y_X10_imageAt = true) (hc : c0 + 0 ≤ Y.2.2.2.2.2.2.1) (hs : s0 + 0 ≤ Y.2.2.2.2.2.2.2) (ho : gx G n μ → 0 ≤ a ∧ a < n ∧ SH a = (10, 12)) (h : CR G Y_X10_imageAt [.inr a, .inl x0] n μ Q) (w : ∀ (x : Int) (n' : Nat) (ν : Mem), 0 ≤ x → Q x n' ν → Wa G Y Z c0 s0 n' ν (pc + 3) L (.inr x :: st)) : Wa G Y Z c0 s0 n μ pc L (.inl x0 :: .inr a :: st) :=
  c_VR (Yc := Y_X10_imageAt) (As := [.inl x0]) rfl hd (by rw [hY]; exact lm_X10_241) mc_X10_imageAt mi_X10_imageAt ms_X10_imageAt hst (fits_of hf hc hs) cf_10.2.1 (by decide) ho h rfl rfl w
theorem lm_X10_248 : Cond.methodLink RX10 248 yX6_seek ∈ gT := gT_mem (i := 771) (by decide +kernel) (by decide +kernel)
theorem k_X10_248 {G : GT} {Y : MD} {Z : ZT} {c0 s0 n pc : Nat} {μ : Mem} {L : List (Nat × AV)} {st : List AV} {a : Int} {x0 x1 x2 x3 x4 : Int} {Q : Int → Nat → Mem → Prop} (hY : Y.1.cls = RX10) (hd : decode Y.2.1 pc = .ok (.invokevirtual 248, 3)) (hst : st.length ≤ 8) (hf : fitsB Y Y_X6_seek = true) (hc : c0 + 0 ≤ Y.2.2.2.2.2.2.1) (hs : s0 + 0 ≤ Y.2.2.2.2.2.2.2) (ho : gx G n μ → 0 ≤ a ∧ a < n ∧ SH a = (6, 8)) (h : CI G Y_X6_seek [.inr a, .inl x0, .inl x1, .inl x2, .inl x3, .inl x4] n μ Q) (w : ∀ (x : Int) (n' : Nat) (ν : Mem), Q x n' ν → Wa G Y Z c0 s0 n' ν (pc + 3) L (.inl x :: st)) : Wa G Y Z c0 s0 n μ pc L (.inl x4 :: .inl x3 :: .inl x2 :: .inl x1 :: .inl x0 :: .inr a :: st) :=
  c_VI (Yc := Y_X6_seek) (As := [.inl x0, .inl x1, .inl x2, .inl x3, .inl x4]) rfl hd (by rw [hY]; exact lm_X10_248) mc_X6_seek mi_X6_seek ms_X6_seek hst (fits_of hf hc hs) cf_6.2.1 (by decide) ho h rfl rfl w
theorem lm_X0_3 : Cond.methodLink RX0 3 Lib.objectInit ∈ gT := gT_mem (i := 252) (by decide +kernel) (by decide +kernel)
theorem k_X0_3 {G : GT} {Y : MD} {Z : ZT} {c0 s0 n pc : Nat} {μ : Mem} {L : List (Nat × AV)} {st : List AV} {a : Int} (hY : Y.1.cls = RX0) (hd : decode Y.2.1 pc = .ok (.invokespecial 3, 3)) (ha : 0 ≤ a) (hst : st.length ≤ 8) (hf : Nat.ble 1 Y.2.2.2.2.1 = true) (hlo : Nat.ble 20 Y.2.2.2.2.2.1 = true) (w : Wa G Y Z c0 s0 n μ (pc + 3) L st) : Wa G Y Z c0 s0 n μ pc L (.inr a :: st) :=
  a_objInit hd (by rw [hY]; exact lm_X0_3) oi_i oi_c ha hst (Nat.le_of_ble_eq_true hf) (Nat.le_of_ble_eq_true hlo) w
theorem lm_X0_17 : Cond.methodLink RX0 17 yX8_init ∈ gT := gT_mem (i := 254) (by decide +kernel) (by decide +kernel)
theorem k_X0_17 {G : GT} {Y : MD} {Z : ZT} {c0 s0 n pc : Nat} {μ : Mem} {L : List (Nat × AV)} {st : List AV} {a : Int} {x0 x1 : Int} {Q : Nat → Mem → Prop} (hY : Y.1.cls = RX0) (hd : decode Y.2.1 pc = .ok (.invokespecial 17, 3)) (hst : st.length ≤ 8) (hf : fitsB Y Y_X8_init = true) (hc : c0 + 1 ≤ Y.2.2.2.2.2.2.1) (hs : s0 + 800 ≤ Y.2.2.2.2.2.2.2) (ha : 0 ≤ a) (h : CV G Y_X8_init [.inr a, .inl x0, .inl x1] n μ Q) (w : ∀ (n' : Nat) (ν : Mem), Q n' ν → Wa G Y Z (c0 + 1) (s0 + 800) n' ν (pc + 3) L st) : Wa G Y Z c0 s0 n μ pc L (.inl x1 :: .inl x0 :: .inr a :: st) :=
  c_N (Yc := Y_X8_init) (As := [.inl x0, .inl x1]) rfl hd (by rw [hY]; exact lm_X0_17) mc_X8_init mi_X8_init rfl rfl hst (fits_of hf hc hs) ha h rfl rfl w
theorem lm_X0_47 : Cond.methodLink RX0 47 yX8_cut ∈ gT := gT_mem (i := 536) (by decide +kernel) (by decide +kernel)
theorem k_X0_47 {G : GT} {Y : MD} {Z : ZT} {c0 s0 n pc : Nat} {μ : Mem} {L : List (Nat × AV)} {st : List AV} {a : Int} {x0 : Int} {Q : Nat → Mem → Prop} (hY : Y.1.cls = RX0) (hd : decode Y.2.1 pc = .ok (.invokevirtual 47, 3)) (hst : st.length ≤ 8) (hf : fitsB Y Y_X8_cut = true) (hc : c0 + 0 ≤ Y.2.2.2.2.2.2.1) (hs : s0 + 0 ≤ Y.2.2.2.2.2.2.2) (ho : gx G n μ → 0 ≤ a ∧ a < n ∧ SH a = (8, 3)) (h : CV G Y_X8_cut [.inr a, .inl x0] n μ Q) (w : ∀ (n' : Nat) (ν : Mem), Q n' ν → Wa G Y Z c0 s0 n' ν (pc + 3) L st) : Wa G Y Z c0 s0 n μ pc L (.inl x0 :: .inr a :: st) :=
  c_VV (Yc := Y_X8_cut) (As := [.inl x0]) rfl hd (by rw [hY]; exact lm_X0_47) mc_X8_cut mi_X8_cut ms_X8_cut hst (fits_of hf hc hs) cf_8.2.1 (by decide) ho h rfl rfl w
theorem lm_X0_51 : Cond.methodLink RX0 51 yX0_start ∈ gT := gT_mem (i := 532) (by decide +kernel) (by decide +kernel)
theorem k_X0_51 {G : GT} {Y : MD} {Z : ZT} {c0 s0 n pc : Nat} {μ : Mem} {L : List (Nat × AV)} {st : List AV} {a : Int} {x0 x1 x2 x3 x4 : Int} {Q : Nat → Mem → Prop} (hY : Y.1.cls = RX0) (hd : decode Y.2.1 pc = .ok (.invokevirtual 51, 3)) (hst : st.length ≤ 8) (hf : fitsB Y Y_X0_start = true) (hc : c0 + 0 ≤ Y.2.2.2.2.2.2.1) (hs : s0 + 0 ≤ Y.2.2.2.2.2.2.2) (ho : gx G n μ → 0 ≤ a ∧ a < n ∧ SH a = (0, 9)) (h : CV G Y_X0_start [.inr a, .inl x0, .inl x1, .inl x2, .inl x3, .inl x4] n μ Q) (w : ∀ (n' : Nat) (ν : Mem), Q n' ν → Wa G Y Z c0 s0 n' ν (pc + 3) L st) : Wa G Y Z c0 s0 n μ pc L (.inl x4 :: .inl x3 :: .inl x2 :: .inl x1 :: .inl x0 :: .inr a :: st) :=
  c_VV (Yc := Y_X0_start) (As := [.inl x0, .inl x1, .inl x2, .inl x3, .inl x4]) rfl hd (by rw [hY]; exact lm_X0_51) mc_X0_start mi_X0_start ms_X0_start hst (fits_of hf hc hs) cf_0.2.1 (by decide) ho h rfl rfl w
theorem lm_X0_55 : Cond.methodLink RX0 55 yX8_copyFrom ∈ gT := gT_mem (i := 537) (by decide +kernel) (by decide +kernel)
theorem k_X0_55 {G : GT} {Y : MD} {Z : ZT} {c0 s0 n pc : Nat} {μ : Mem} {L : List (Nat × AV)} {st : List AV} {a : Int} {x0 : Int} {Q : Nat → Mem → Prop} (hY : Y.1.cls = RX0) (hd : decode Y.2.1 pc = .ok (.invokevirtual 55, 3)) (hst : st.length ≤ 8) (hf : fitsB Y Y_X8_copyFrom = true) (hc : c0 + 0 ≤ Y.2.2.2.2.2.2.1) (hs : s0 + 0 ≤ Y.2.2.2.2.2.2.2) (ho : gx G n μ → 0 ≤ a ∧ a < n ∧ SH a = (8, 3)) (h : CV G Y_X8_copyFrom [.inr a, .inr x0] n μ Q) (w : ∀ (n' : Nat) (ν : Mem), Q n' ν → Wa G Y Z c0 s0 n' ν (pc + 3) L st) : Wa G Y Z c0 s0 n μ pc L (.inr x0 :: .inr a :: st) :=
  c_VV (Yc := Y_X8_copyFrom) (As := [.inr x0]) rfl hd (by rw [hY]; exact lm_X0_55) mc_X8_copyFrom mi_X8_copyFrom ms_X8_copyFrom hst (fits_of hf hc hs) cf_8.2.1 (by decide) ho h rfl rfl w
theorem lm_X0_59 : Cond.methodLink RX0 59 yX0_lastNode ∈ gT := gT_mem (i := 572) (by decide +kernel) (by decide +kernel)
theorem k_X0_59 {G : GT} {Y : MD} {Z : ZT} {c0 s0 n pc : Nat} {μ : Mem} {L : List (Nat × AV)} {st : List AV} {a : Int} {Q : Int → Nat → Mem → Prop} (hY : Y.1.cls = RX0) (hd : decode Y.2.1 pc = .ok (.invokevirtual 59, 3)) (hst : st.length ≤ 8) (hf : fitsB Y Y_X0_lastNode = true) (hc : c0 + 0 ≤ Y.2.2.2.2.2.2.1) (hs : s0 + 0 ≤ Y.2.2.2.2.2.2.2) (ho : gx G n μ → 0 ≤ a ∧ a < n ∧ SH a = (0, 9)) (h : CI G Y_X0_lastNode [.inr a] n μ Q) (w : ∀ (x : Int) (n' : Nat) (ν : Mem), Q x n' ν → Wa G Y Z c0 s0 n' ν (pc + 3) L (.inl x :: st)) : Wa G Y Z c0 s0 n μ pc L (.inr a :: st) :=
  c_VI (Yc := Y_X0_lastNode) (As := []) rfl hd (by rw [hY]; exact lm_X0_59) mc_X0_lastNode mi_X0_lastNode ms_X0_lastNode hst (fits_of hf hc hs) cf_0.2.1 (by decide) ho h rfl rfl w
theorem lm_X0_66 : Cond.methodLink RX0 66 yX8_at ∈ gT := gT_mem (i := 576) (by decide +kernel) (by decide +kernel)
theorem k_X0_66 {G : GT} {Y : MD} {Z : ZT} {c0 s0 n pc : Nat} {μ : Mem} {L : List (Nat × AV)} {st : List AV} {a : Int} {x0 x1 : Int} {Q : Int → Nat → Mem → Prop} (hY : Y.1.cls = RX0) (hd : decode Y.2.1 pc = .ok (.invokevirtual 66, 3)) (hst : st.length ≤ 8) (hf : fitsB Y Y_X8_at = true) (hc : c0 + 0 ≤ Y.2.2.2.2.2.2.1) (hs : s0 + 0 ≤ Y.2.2.2.2.2.2.2) (ho : gx G n μ → 0 ≤ a ∧ a < n ∧ SH a = (8, 3)) (h : CI G Y_X8_at [.inr a, .inl x0, .inl x1] n μ Q) (w : ∀ (x : Int) (n' : Nat) (ν : Mem), Q x n' ν → Wa G Y Z c0 s0 n' ν (pc + 3) L (.inl x :: st)) : Wa G Y Z c0 s0 n μ pc L (.inl x1 :: .inl x0 :: .inr a :: st) :=
  c_VI (Yc := Y_X8_at) (As := [.inl x0, .inl x1]) rfl hd (by rw [hY]; exact lm_X0_66) mc_X8_at mi_X8_at ms_X8_at hst (fits_of hf hc hs) cf_8.2.1 (by decide) ho h rfl rfl w
theorem lm_X0_70 : Cond.methodLink RX0 70 yX3_contactAt ∈ gT := gT_mem (i := 577) (by decide +kernel) (by decide +kernel)
theorem k_X0_70 {G : GT} {Y : MD} {Z : ZT} {c0 s0 n pc : Nat} {μ : Mem} {L : List (Nat × AV)} {st : List AV} {a : Int} {x0 : Int} {Q : Int → Nat → Mem → Prop} (hY : Y.1.cls = RX0) (hd : decode Y.2.1 pc = .ok (.invokevirtual 70, 3)) (hst : st.length ≤ 8) (hf : fitsB Y Y_X3_contactAt = true) (hc : c0 + 0 ≤ Y.2.2.2.2.2.2.1) (hs : s0 + 0 ≤ Y.2.2.2.2.2.2.2) (ho : gx G n μ → 0 ≤ a ∧ a < n ∧ SH a = (3, 4)) (h : CR G Y_X3_contactAt [.inr a, .inl x0] n μ Q) (w : ∀ (x : Int) (n' : Nat) (ν : Mem), 0 ≤ x → Q x n' ν → Wa G Y Z c0 s0 n' ν (pc + 3) L (.inr x :: st)) : Wa G Y Z c0 s0 n μ pc L (.inl x0 :: .inr a :: st) :=
  c_VR (Yc := Y_X3_contactAt) (As := [.inl x0]) rfl hd (by rw [hY]; exact lm_X0_70) mc_X3_contactAt mi_X3_contactAt ms_X3_contactAt hst (fits_of hf hc hs) cf_3.2.1 (by decide) ho h rfl rfl w
theorem lm_X0_81 : Cond.methodLink RX0 81 yX0_standing ∈ gT := gT_mem (i := 743) (by decide +kernel) (by decide +kernel)
theorem k_X0_81 {G : GT} {Y : MD} {Z : ZT} {c0 s0 n pc : Nat} {μ : Mem} {L : List (Nat × AV)} {st : List AV} {a : Int} {x0 : Int} {Q : Int → Nat → Mem → Prop} (hY : Y.1.cls = RX0) (hd : decode Y.2.1 pc = .ok (.invokevirtual 81, 3)) (hst : st.length ≤ 8) (hf : fitsB Y Y_X0_standing = true) (hc : c0 + 0 ≤ Y.2.2.2.2.2.2.1) (hs : s0 + 0 ≤ Y.2.2.2.2.2.2.2) (ho : gx G n μ → 0 ≤ a ∧ a < n ∧ SH a = (0, 9)) (h : CI G Y_X0_standing [.inr a, .inl x0] n μ Q) (w : ∀ (x : Int) (n' : Nat) (ν : Mem), Q x n' ν → Wa G Y Z c0 s0 n' ν (pc + 3) L (.inl x :: st)) : Wa G Y Z c0 s0 n μ pc L (.inl x0 :: .inr a :: st) :=
  c_VI (Yc := Y_X0_standing) (As := [.inl x0]) rfl hd (by rw [hY]; exact lm_X0_81) mc_X0_standing mi_X0_standing ms_X0_standing hst (fits_of hf hc hs) cf_0.2.1 (by decide) ho h rfl rfl w
theorem lm_X0_85 : Cond.methodLink RX0 85 yX0_lastThere ∈ gT := gT_mem (i := 744) (by decide +kernel) (by decide +kernel)
theorem k_X0_85 {G : GT} {Y : MD} {Z : ZT} {c0 s0 n pc : Nat} {μ : Mem} {L : List (Nat × AV)} {st : List AV} {a : Int} {Q : Int → Nat → Mem → Prop} (hY : Y.1.cls = RX0) (hd : decode Y.2.1 pc = .ok (.invokevirtual 85, 3)) (hst : st.length ≤ 8) (hf : fitsB Y Y_X0_lastThere = true) (hc : c0 + 0 ≤ Y.2.2.2.2.2.2.1) (hs : s0 + 0 ≤ Y.2.2.2.2.2.2.2) (ho : gx G n μ → 0 ≤ a ∧ a < n ∧ SH a = (0, 9)) (h : CI G Y_X0_lastThere [.inr a] n μ Q) (w : ∀ (x : Int) (n' : Nat) (ν : Mem), Q x n' ν → Wa G Y Z c0 s0 n' ν (pc + 3) L (.inl x :: st)) : Wa G Y Z c0 s0 n μ pc L (.inr a :: st) :=
  c_VI (Yc := Y_X0_lastThere) (As := []) rfl hd (by rw [hY]; exact lm_X0_85) mc_X0_lastThere mi_X0_lastThere ms_X0_lastThere hst (fits_of hf hc hs) cf_0.2.1 (by decide) ho h rfl rfl w
theorem lm_X0_88 : Cond.methodLink RX0 88 yX0_giveUpHopsToCome ∈ gT := gT_mem (i := 674) (by decide +kernel) (by decide +kernel)
theorem k_X0_88 {G : GT} {Y : MD} {Z : ZT} {c0 s0 n pc : Nat} {μ : Mem} {L : List (Nat × AV)} {st : List AV} {a : Int} {x0 : Int} {Q : Nat → Mem → Prop} (hY : Y.1.cls = RX0) (hd : decode Y.2.1 pc = .ok (.invokevirtual 88, 3)) (hst : st.length ≤ 8) (hf : fitsB Y Y_X0_giveUpHopsToCome = true) (hc : c0 + 0 ≤ Y.2.2.2.2.2.2.1) (hs : s0 + 0 ≤ Y.2.2.2.2.2.2.2) (ho : gx G n μ → 0 ≤ a ∧ a < n ∧ SH a = (0, 9)) (h : CV G Y_X0_giveUpHopsToCome [.inr a, .inl x0] n μ Q) (w : ∀ (n' : Nat) (ν : Mem), Q n' ν → Wa G Y Z c0 s0 n' ν (pc + 3) L st) : Wa G Y Z c0 s0 n μ pc L (.inl x0 :: .inr a :: st) :=
  c_VV (Yc := Y_X0_giveUpHopsToCome) (As := [.inl x0]) rfl hd (by rw [hY]; exact lm_X0_88) mc_X0_giveUpHopsToCome mi_X0_giveUpHopsToCome ms_X0_giveUpHopsToCome hst (fits_of hf hc hs) cf_0.2.1 (by decide) ho h rfl rfl w
theorem lm_X0_91 : Cond.methodLink RX0 91 yX0_hopsOnTheirWay ∈ gT := gT_mem (i := 595) (by decide +kernel) (by decide +kernel)
theorem k_X0_91 {G : GT} {Y : MD} {Z : ZT} {c0 s0 n pc : Nat} {μ : Mem} {L : List (Nat × AV)} {st : List AV} {a : Int} {x0 : Int} {Q : Int → Nat → Mem → Prop} (hY : Y.1.cls = RX0) (hd : decode Y.2.1 pc = .ok (.invokevirtual 91, 3)) (hst : st.length ≤ 8) (hf : fitsB Y Y_X0_hopsOnTheirWay = true) (hc : c0 + 0 ≤ Y.2.2.2.2.2.2.1) (hs : s0 + 0 ≤ Y.2.2.2.2.2.2.2) (ho : gx G n μ → 0 ≤ a ∧ a < n ∧ SH a = (0, 9)) (h : CI G Y_X0_hopsOnTheirWay [.inr a, .inl x0] n μ Q) (w : ∀ (x : Int) (n' : Nat) (ν : Mem), Q x n' ν → Wa G Y Z c0 s0 n' ν (pc + 3) L (.inl x :: st)) : Wa G Y Z c0 s0 n μ pc L (.inl x0 :: .inr a :: st) :=
  c_VI (Yc := Y_X0_hopsOnTheirWay) (As := [.inl x0]) rfl hd (by rw [hY]; exact lm_X0_91) mc_X0_hopsOnTheirWay mi_X0_hopsOnTheirWay ms_X0_hopsOnTheirWay hst (fits_of hf hc hs) cf_0.2.1 (by decide) ho h rfl rfl w
theorem lm_X0_94 : Cond.methodLink RX0 94 yX8_removeFirstRow ∈ gT := gT_mem (i := 687) (by decide +kernel) (by decide +kernel)
theorem k_X0_94 {G : GT} {Y : MD} {Z : ZT} {c0 s0 n pc : Nat} {μ : Mem} {L : List (Nat × AV)} {st : List AV} {a : Int} {Q : Nat → Mem → Prop} (hY : Y.1.cls = RX0) (hd : decode Y.2.1 pc = .ok (.invokevirtual 94, 3)) (hst : st.length ≤ 8) (hf : fitsB Y Y_X8_removeFirstRow = true) (hc : c0 + 0 ≤ Y.2.2.2.2.2.2.1) (hs : s0 + 0 ≤ Y.2.2.2.2.2.2.2) (ho : gx G n μ → 0 ≤ a ∧ a < n ∧ SH a = (8, 3)) (h : CV G Y_X8_removeFirstRow [.inr a] n μ Q) (w : ∀ (n' : Nat) (ν : Mem), Q n' ν → Wa G Y Z c0 s0 n' ν (pc + 3) L st) : Wa G Y Z c0 s0 n μ pc L (.inr a :: st) :=
  c_VV (Yc := Y_X8_removeFirstRow) (As := []) rfl hd (by rw [hY]; exact lm_X0_94) mc_X8_removeFirstRow mi_X8_removeFirstRow ms_X8_removeFirstRow hst (fits_of hf hc hs) cf_8.2.1 (by decide) ho h rfl rfl w
theorem lm_X1_3 : Cond.methodLink RX1 3 Lib.objectInit ∈ gT := gT_mem (i := 116) (by decide +kernel) (by decide +kernel)
theorem k_X1_3 {G : GT} {Y : MD} {Z : ZT} {c0 s0 n pc : Nat} {μ : Mem} {L : List (Nat × AV)} {st : List AV} {a : Int} (hY : Y.1.cls = RX1) (hd : decode Y.2.1 pc = .ok (.invokespecial 3, 3)) (ha : 0 ≤ a) (hst : st.length ≤ 8) (hf : Nat.ble 1 Y.2.2.2.2.1 = true) (hlo : Nat.ble 20 Y.2.2.2.2.2.1 = true) (w : Wa G Y Z c0 s0 n μ (pc + 3) L st) : Wa G Y Z c0 s0 n μ pc L (.inr a :: st) :=
  a_objInit hd (by rw [hY]; exact lm_X1_3) oi_i oi_c ha hst (Nat.le_of_ble_eq_true hf) (Nat.le_of_ble_eq_true hlo) w
theorem lm_X2_3 : Cond.methodLink RX2 3 Lib.objectInit ∈ gT := gT_mem (i := 320) (by decide +kernel) (by decide +kernel)
theorem k_X2_3 {G : GT} {Y : MD} {Z : ZT} {c0 s0 n pc : Nat} {μ : Mem} {L : List (Nat × AV)} {st : List AV} {a : Int} (hY : Y.1.cls = RX2) (hd : decode Y.2.1 pc = .ok (.invokespecial 3, 3)) (ha : 0 ≤ a) (hst : st.length ≤ 8) (hf : Nat.ble 1 Y.2.2.2.2.1 = true) (hlo : Nat.ble 20 Y.2.2.2.2.2.1 = true) (w : Wa G Y Z c0 s0 n μ (pc + 3) L st) : Wa G Y Z c0 s0 n μ pc L (.inr a :: st) :=
  a_objInit hd (by rw [hY]; exact lm_X2_3) oi_i oi_c ha hst (Nat.le_of_ble_eq_true hf) (Nat.le_of_ble_eq_true hlo) w
theorem lm_X2_11 : Cond.methodLink RX2 11 yX7_init ∈ gT := gT_mem (i := 322) (by decide +kernel) (by decide +kernel)
theorem k_X2_11 {G : GT} {Y : MD} {Z : ZT} {c0 s0 n pc : Nat} {μ : Mem} {L : List (Nat × AV)} {st : List AV} {a : Int} {x0 : Int} {Q : Nat → Mem → Prop} (hY : Y.1.cls = RX2) (hd : decode Y.2.1 pc = .ok (.invokespecial 11, 3)) (hst : st.length ≤ 8) (hf : fitsB Y Y_X7_init = true) (hc : c0 + 28 ≤ Y.2.2.2.2.2.2.1) (hs : s0 + 7316 ≤ Y.2.2.2.2.2.2.2) (ha : 0 ≤ a) (h : CV G Y_X7_init [.inr a, .inr x0] n μ Q) (w : ∀ (n' : Nat) (ν : Mem), Q n' ν → Wa G Y Z (c0 + 28) (s0 + 7316) n' ν (pc + 3) L st) : Wa G Y Z c0 s0 n μ pc L (.inr x0 :: .inr a :: st) :=
  c_N (Yc := Y_X7_init) (As := [.inr x0]) rfl hd (by rw [hY]; exact lm_X2_11) mc_X7_init mi_X7_init rfl rfl hst (fits_of hf hc hs) ha h rfl rfl w
theorem lm_X2_31 : Cond.methodLink RX2 31 yX2_slotAt ∈ gT := gT_mem (i := 516) (by decide +kernel) (by decide +kernel)
theorem k_X2_31 {G : GT} {Y : MD} {Z : ZT} {c0 s0 n pc : Nat} {μ : Mem} {L : List (Nat × AV)} {st : List AV} {a : Int} {x0 : Int} {Q : Int → Nat → Mem → Prop} (hY : Y.1.cls = RX2) (hd : decode Y.2.1 pc = .ok (.invokevirtual 31, 3)) (hst : st.length ≤ 8) (hf : fitsB Y Y_X2_slotAt = true) (hc : c0 + 0 ≤ Y.2.2.2.2.2.2.1) (hs : s0 + 0 ≤ Y.2.2.2.2.2.2.2) (ho : gx G n μ → 0 ≤ a ∧ a < n ∧ SH a = (2, 4)) (h : CR G Y_X2_slotAt [.inr a, .inl x0] n μ Q) (w : ∀ (x : Int) (n' : Nat) (ν : Mem), 0 ≤ x → Q x n' ν → Wa G Y Z c0 s0 n' ν (pc + 3) L (.inr x :: st)) : Wa G Y Z c0 s0 n μ pc L (.inl x0 :: .inr a :: st) :=
  c_VR (Yc := Y_X2_slotAt) (As := [.inl x0]) rfl hd (by rw [hY]; exact lm_X2_31) mc_X2_slotAt mi_X2_slotAt ms_X2_slotAt hst (fits_of hf hc hs) cf_2.2.1 (by decide) ho h rfl rfl w
theorem lm_X2_35 : Cond.methodLink RX2 35 yX7_copyFrom ∈ gT := gT_mem (i := 520) (by decide +kernel) (by decide +kernel)
theorem k_X2_35 {G : GT} {Y : MD} {Z : ZT} {c0 s0 n pc : Nat} {μ : Mem} {L : List (Nat × AV)} {st : List AV} {a : Int} {x0 : Int} {Q : Nat → Mem → Prop} (hY : Y.1.cls = RX2) (hd : decode Y.2.1 pc = .ok (.invokevirtual 35, 3)) (hst : st.length ≤ 8) (hf : fitsB Y Y_X7_copyFrom = true) (hc : c0 + 0 ≤ Y.2.2.2.2.2.2.1) (hs : s0 + 0 ≤ Y.2.2.2.2.2.2.2) (ho : gx G n μ → 0 ≤ a ∧ a < n ∧ SH a = (7, 5)) (h : CV G Y_X7_copyFrom [.inr a, .inr x0] n μ Q) (w : ∀ (n' : Nat) (ν : Mem), Q n' ν → Wa G Y Z c0 s0 n' ν (pc + 3) L st) : Wa G Y Z c0 s0 n μ pc L (.inr x0 :: .inr a :: st) :=
  c_VV (Yc := Y_X7_copyFrom) (As := [.inr x0]) rfl hd (by rw [hY]; exact lm_X2_35) mc_X7_copyFrom mi_X7_copyFrom ms_X7_copyFrom hst (fits_of hf hc hs) cf_7.2.1 (by decide) ho h rfl rfl w
theorem lm_X2_39 : Cond.methodLink RX2 39 Lib.Math.min.name ∈ gT := gT_mem (i := 557) (by decide +kernel) (by decide +kernel)
theorem k_X2_39 {G : GT} {Y : MD} {Z : ZT} {c0 s0 n pc : Nat} {μ : Mem} {L : List (Nat × AV)} {st : List AV} {x y : Int} (hY : Y.1.cls = RX2) (hd : decode Y.2.1 pc = .ok (.invokestatic 39, 3)) (hst : st.length ≤ 7) (hf : Nat.ble 1 Y.2.2.2.2.1 = true) (hlo : Nat.ble 20 Y.2.2.2.2.2.1 = true) (hc : c0 ≤ Y.2.2.2.2.2.2.1) (hs : s0 ≤ Y.2.2.2.2.2.2.2) (w : Wa G Y Z c0 s0 n μ (pc + 3) L (.inl (if y < x then y else x) :: st)) : Wa G Y Z c0 s0 n μ pc L (.inl y :: .inl x :: st) :=
  a_min hd (by rw [hY]; exact lm_X2_39) ma_min_s ma_i ma_min_c hst (Nat.le_of_ble_eq_true hf) (Nat.le_of_ble_eq_true hlo) hc hs w
theorem lm_X3_3 : Cond.methodLink RX3 3 Lib.objectInit ∈ gT := gT_mem (i := 110) (by decide +kernel) (by decide +kernel)
theorem k_X3_3 {G : GT} {Y : MD} {Z : ZT} {c0 s0 n pc : Nat} {μ : Mem} {L : List (Nat × AV)} {st : List AV} {a : Int} (hY : Y.1.cls = RX3) (hd : decode Y.2.1 pc = .ok (.invokespecial 3, 3)) (ha : 0 ≤ a) (hst : st.length ≤ 8) (hf : Nat.ble 1 Y.2.2.2.2.1 = true) (hlo : Nat.ble 20 Y.2.2.2.2.2.1 = true) (w : Wa G Y Z c0 s0 n μ (pc + 3) L st) : Wa G Y Z c0 s0 n μ pc L (.inr a :: st) :=
  a_objInit hd (by rw [hY]; exact lm_X3_3) oi_i oi_c ha hst (Nat.le_of_ble_eq_true hf) (Nat.le_of_ble_eq_true hlo) w
theorem lm_X3_11 : Cond.methodLink RX3 11 yX1_init ∈ gT := gT_mem (i := 113) (by decide +kernel) (by decide +kernel)
theorem k_X3_11 {G : GT} {Y : MD} {Z : ZT} {c0 s0 n pc : Nat} {μ : Mem} {L : List (Nat × AV)} {st : List AV} {a : Int} {x0 x1 x2 x3 x4 x5 : Int} {Q : Nat → Mem → Prop} (hY : Y.1.cls = RX3) (hd : decode Y.2.1 pc = .ok (.invokespecial 11, 3)) (hst : st.length ≤ 8) (hf : fitsB Y Y_X1_init = true) (hc : c0 + 0 ≤ Y.2.2.2.2.2.2.1) (hs : s0 + 0 ≤ Y.2.2.2.2.2.2.2) (ha : 0 ≤ a) (h : CV G Y_X1_init [.inr a, .inl x0, .inl x1, .inl x2, .inl x3, .inl x4, .inl x5] n μ Q) (w : ∀ (n' : Nat) (ν : Mem), Q n' ν → Wa G Y Z c0 s0 n' ν (pc + 3) L st) : Wa G Y Z c0 s0 n μ pc L (.inl x5 :: .inl x4 :: .inl x3 :: .inl x2 :: .inl x1 :: .inl x0 :: .inr a :: st) :=
  c_N (Yc := Y_X1_init) (As := [.inl x0, .inl x1, .inl x2, .inl x3, .inl x4, .inl x5]) rfl hd (by rw [hY]; exact lm_X3_11) mc_X1_init mi_X1_init rfl rfl hst (fits_of hf hc hs) ha h rfl rfl w
theorem lm_X3_31 : Cond.methodLink RX3 31 yX3_contactAt ∈ gT := gT_mem (i := 465) (by decide +kernel) (by decide +kernel)
theorem k_X3_31 {G : GT} {Y : MD} {Z : ZT} {c0 s0 n pc : Nat} {μ : Mem} {L : List (Nat × AV)} {st : List AV} {a : Int} {x0 : Int} {Q : Int → Nat → Mem → Prop} (hY : Y.1.cls = RX3) (hd : decode Y.2.1 pc = .ok (.invokevirtual 31, 3)) (hst : st.length ≤ 8) (hf : fitsB Y Y_X3_contactAt = true) (hc : c0 + 0 ≤ Y.2.2.2.2.2.2.1) (hs : s0 + 0 ≤ Y.2.2.2.2.2.2.2) (ho : gx G n μ → 0 ≤ a ∧ a < n ∧ SH a = (3, 4)) (h : CR G Y_X3_contactAt [.inr a, .inl x0] n μ Q) (w : ∀ (x : Int) (n' : Nat) (ν : Mem), 0 ≤ x → Q x n' ν → Wa G Y Z c0 s0 n' ν (pc + 3) L (.inr x :: st)) : Wa G Y Z c0 s0 n μ pc L (.inl x0 :: .inr a :: st) :=
  c_VR (Yc := Y_X3_contactAt) (As := [.inl x0]) rfl hd (by rw [hY]; exact lm_X3_31) mc_X3_contactAt mi_X3_contactAt ms_X3_contactAt hst (fits_of hf hc hs) cf_3.2.1 (by decide) ho h rfl rfl w
theorem lm_X3_35 : Cond.methodLink RX3 35 yX3_addContact ∈ gT := gT_mem (i := 469) (by decide +kernel) (by decide +kernel)
theorem k_X3_35 {G : GT} {Y : MD} {Z : ZT} {c0 s0 n pc : Nat} {μ : Mem} {L : List (Nat × AV)} {st : List AV} {a : Int} {x0 : Int} {Q : Nat → Mem → Prop} (hY : Y.1.cls = RX3) (hd : decode Y.2.1 pc = .ok (.invokevirtual 35, 3)) (hst : st.length ≤ 8) (hf : fitsB Y Y_X3_addContact = true) (hc : c0 + 0 ≤ Y.2.2.2.2.2.2.1) (hs : s0 + 0 ≤ Y.2.2.2.2.2.2.2) (ho : gx G n μ → 0 ≤ a ∧ a < n ∧ SH a = (3, 4)) (h : CV G Y_X3_addContact [.inr a, .inr x0] n μ Q) (w : ∀ (n' : Nat) (ν : Mem), Q n' ν → Wa G Y Z c0 s0 n' ν (pc + 3) L st) : Wa G Y Z c0 s0 n μ pc L (.inr x0 :: .inr a :: st) :=
  c_VV (Yc := Y_X3_addContact) (As := [.inr x0]) rfl hd (by rw [hY]; exact lm_X3_35) mc_X3_addContact mi_X3_addContact ms_X3_addContact hst (fits_of hf hc hs) cf_3.2.1 (by decide) ho h rfl rfl w
theorem lm_X4_3 : Cond.methodLink RX4 3 Lib.objectInit ∈ gT := gT_mem (i := 104) (by decide +kernel) (by decide +kernel)
theorem k_X4_3 {G : GT} {Y : MD} {Z : ZT} {c0 s0 n pc : Nat} {μ : Mem} {L : List (Nat × AV)} {st : List AV} {a : Int} (hY : Y.1.cls = RX4) (hd : decode Y.2.1 pc = .ok (.invokespecial 3, 3)) (ha : 0 ≤ a) (hst : st.length ≤ 8) (hf : Nat.ble 1 Y.2.2.2.2.1 = true) (hlo : Nat.ble 20 Y.2.2.2.2.2.1 = true) (w : Wa G Y Z c0 s0 n μ (pc + 3) L st) : Wa G Y Z c0 s0 n μ pc L (.inr a :: st) :=
  a_objInit hd (by rw [hY]; exact lm_X4_3) oi_i oi_c ha hst (Nat.le_of_ble_eq_true hf) (Nat.le_of_ble_eq_true hlo) w
theorem lm_X4_17 : Cond.methodLink RX4 17 yX3_init ∈ gT := gT_mem (i := 107) (by decide +kernel) (by decide +kernel)
theorem k_X4_17 {G : GT} {Y : MD} {Z : ZT} {c0 s0 n pc : Nat} {μ : Mem} {L : List (Nat × AV)} {st : List AV} {a : Int} {Q : Nat → Mem → Prop} (hY : Y.1.cls = RX4) (hd : decode Y.2.1 pc = .ok (.invokespecial 17, 3)) (hst : st.length ≤ 8) (hf : fitsB Y Y_X3_init = true) (hc : c0 + 2 ≤ Y.2.2.2.2.2.2.1) (hs : s0 + 14 ≤ Y.2.2.2.2.2.2.2) (ha : 0 ≤ a) (h : CV G Y_X3_init [.inr a] n μ Q) (w : ∀ (n' : Nat) (ν : Mem), Q n' ν → Wa G Y Z (c0 + 2) (s0 + 14) n' ν (pc + 3) L st) : Wa G Y Z c0 s0 n μ pc L (.inr a :: st) :=
  c_N (Yc := Y_X3_init) (As := []) rfl hd (by rw [hY]; exact lm_X4_17) mc_X3_init mi_X3_init rfl rfl hst (fits_of hf hc hs) ha h rfl rfl w
theorem lm_X4_29 : Cond.methodLink RX4 29 yX3_reset ∈ gT := gT_mem (i := 408) (by decide +kernel) (by decide +kernel)
theorem k_X4_29 {G : GT} {Y : MD} {Z : ZT} {c0 s0 n pc : Nat} {μ : Mem} {L : List (Nat × AV)} {st : List AV} {a : Int} {Q : Nat → Mem → Prop} (hY : Y.1.cls = RX4) (hd : decode Y.2.1 pc = .ok (.invokevirtual 29, 3)) (hst : st.length ≤ 8) (hf : fitsB Y Y_X3_reset = true) (hc : c0 + 0 ≤ Y.2.2.2.2.2.2.1) (hs : s0 + 0 ≤ Y.2.2.2.2.2.2.2) (ho : gx G n μ → 0 ≤ a ∧ a < n ∧ SH a = (3, 4)) (h : CV G Y_X3_reset [.inr a] n μ Q) (w : ∀ (n' : Nat) (ν : Mem), Q n' ν → Wa G Y Z c0 s0 n' ν (pc + 3) L st) : Wa G Y Z c0 s0 n μ pc L (.inr a :: st) :=
  c_VV (Yc := Y_X3_reset) (As := []) rfl hd (by rw [hY]; exact lm_X4_29) mc_X3_reset mi_X3_reset ms_X3_reset hst (fits_of hf hc hs) cf_3.2.1 (by decide) ho h rfl rfl w
theorem lm_X4_32 : Cond.methodLink RX4 32 yX4_skipBlanks ∈ gT := gT_mem (i := 412) (by decide +kernel) (by decide +kernel)
theorem k_X4_32 {G : GT} {Y : MD} {Z : ZT} {c0 s0 n pc : Nat} {μ : Mem} {L : List (Nat × AV)} {st : List AV} {a : Int} {Q : Nat → Mem → Prop} (hY : Y.1.cls = RX4) (hd : decode Y.2.1 pc = .ok (.invokevirtual 32, 3)) (hst : st.length ≤ 8) (hf : fitsB Y Y_X4_skipBlanks = true) (hc : c0 + 0 ≤ Y.2.2.2.2.2.2.1) (hs : s0 + 0 ≤ Y.2.2.2.2.2.2.2) (ho : gx G n μ → 0 ≤ a ∧ a < n ∧ SH a = (4, 4)) (h : CV G Y_X4_skipBlanks [.inr a] n μ Q) (w : ∀ (n' : Nat) (ν : Mem), Q n' ν → Wa G Y Z c0 s0 n' ν (pc + 3) L st) : Wa G Y Z c0 s0 n μ pc L (.inr a :: st) :=
  c_VV (Yc := Y_X4_skipBlanks) (As := []) rfl hd (by rw [hY]; exact lm_X4_32) mc_X4_skipBlanks mi_X4_skipBlanks ms_X4_skipBlanks hst (fits_of hf hc hs) cf_4.2.1 (by decide) ho h rfl rfl w
theorem lm_X4_40 : Cond.methodLink RX4 40 yX4_readItem ∈ gT := gT_mem (i := 420) (by decide +kernel) (by decide +kernel)
theorem k_X4_40 {G : GT} {Y : MD} {Z : ZT} {c0 s0 n pc : Nat} {μ : Mem} {L : List (Nat × AV)} {st : List AV} {a : Int} {x0 : Int} {Q : Nat → Mem → Prop} (hY : Y.1.cls = RX4) (hd : decode Y.2.1 pc = .ok (.invokevirtual 40, 3)) (hst : st.length ≤ 8) (hf : fitsB Y Y_X4_readItem = true) (hc : c0 + 1 ≤ Y.2.2.2.2.2.2.1) (hs : s0 + 6 ≤ Y.2.2.2.2.2.2.2) (ho : gx G n μ → 0 ≤ a ∧ a < n ∧ SH a = (4, 4)) (h : CV G Y_X4_readItem [.inr a, .inl x0] n μ Q) (w : ∀ (n' : Nat) (ν : Mem), Q n' ν → Wa G Y Z (c0 + 1) (s0 + 6) n' ν (pc + 3) L st) : Wa G Y Z c0 s0 n μ pc L (.inl x0 :: .inr a :: st) :=
  c_VV (Yc := Y_X4_readItem) (As := [.inl x0]) rfl hd (by rw [hY]; exact lm_X4_40) mc_X4_readItem mi_X4_readItem ms_X4_readItem hst (fits_of hf hc hs) cf_4.2.1 (by decide) ho h rfl rfl w
theorem lm_X4_44 : Cond.methodLink RX4 44 yX9_byteAt ∈ gT := gT_mem (i := 416) (by decide +kernel) (by decide +kernel)
theorem k_X4_44 {G : GT} {Y : MD} {Z : ZT} {c0 s0 n pc : Nat} {μ : Mem} {L : List (Nat × AV)} {st : List AV} {a : Int} {x0 : Int} {Q : Int → Nat → Mem → Prop} (hY : Y.1.cls = RX4) (hd : decode Y.2.1 pc = .ok (.invokevirtual 44, 3)) (hst : st.length ≤ 8) (hf : fitsB Y Y_X9_byteAt = true) (hc : c0 + 0 ≤ Y.2.2.2.2.2.2.1) (hs : s0 + 0 ≤ Y.2.2.2.2.2.2.2) (ho : gx G n μ → 0 ≤ a ∧ a < n ∧ SH a = (9, 2)) (h : CI G Y_X9_byteAt [.inr a, .inl x0] n μ Q) (w : ∀ (x : Int) (n' : Nat) (ν : Mem), Q x n' ν → Wa G Y Z c0 s0 n' ν (pc + 3) L (.inl x :: st)) : Wa G Y Z c0 s0 n μ pc L (.inl x0 :: .inr a :: st) :=
  c_VI (Yc := Y_X9_byteAt) (As := [.inl x0]) rfl hd (by rw [hY]; exact lm_X4_44) mc_X9_byteAt mi_X9_byteAt ms_X9_byteAt hst (fits_of hf hc hs) cf_9.2.1 (by decide) ho h rfl rfl w
theorem lm_X4_48 : Cond.methodLink RX4 48 yX4_readNodes ∈ gT := gT_mem (i := 424) (by decide +kernel) (by decide +kernel)
theorem k_X4_48 {G : GT} {Y : MD} {Z : ZT} {c0 s0 n pc : Nat} {μ : Mem} {L : List (Nat × AV)} {st : List AV} {a : Int} {Q : Nat → Mem → Prop} (hY : Y.1.cls = RX4) (hd : decode Y.2.1 pc = .ok (.invokevirtual 48, 3)) (hst : st.length ≤ 8) (hf : fitsB Y Y_X4_readNodes = true) (hc : c0 + 0 ≤ Y.2.2.2.2.2.2.1) (hs : s0 + 0 ≤ Y.2.2.2.2.2.2.2) (ho : gx G n μ → 0 ≤ a ∧ a < n ∧ SH a = (4, 4)) (h : CV G Y_X4_readNodes [.inr a] n μ Q) (w : ∀ (n' : Nat) (ν : Mem), Q n' ν → Wa G Y Z c0 s0 n' ν (pc + 3) L st) : Wa G Y Z c0 s0 n μ pc L (.inr a :: st) :=
  c_VV (Yc := Y_X4_readNodes) (As := []) rfl hd (by rw [hY]; exact lm_X4_48) mc_X4_readNodes mi_X4_readNodes ms_X4_readNodes hst (fits_of hf hc hs) cf_4.2.1 (by decide) ho h rfl rfl w
theorem lm_X4_51 : Cond.methodLink RX4 51 yX3_hasRoom ∈ gT := gT_mem (i := 447) (by decide +kernel) (by decide +kernel)
theorem k_X4_51 {G : GT} {Y : MD} {Z : ZT} {c0 s0 n pc : Nat} {μ : Mem} {L : List (Nat × AV)} {st : List AV} {a : Int} {Q : Int → Nat → Mem → Prop} (hY : Y.1.cls = RX4) (hd : decode Y.2.1 pc = .ok (.invokevirtual 51, 3)) (hst : st.length ≤ 8) (hf : fitsB Y Y_X3_hasRoom = true) (hc : c0 + 0 ≤ Y.2.2.2.2.2.2.1) (hs : s0 + 0 ≤ Y.2.2.2.2.2.2.2) (ho : gx G n μ → 0 ≤ a ∧ a < n ∧ SH a = (3, 4)) (h : CI G Y_X3_hasRoom [.inr a] n μ Q) (w : ∀ (x : Int) (n' : Nat) (ν : Mem), Q x n' ν → Wa G Y Z c0 s0 n' ν (pc + 3) L (.inl x :: st)) : Wa G Y Z c0 s0 n μ pc L (.inr a :: st) :=
  c_VI (Yc := Y_X3_hasRoom) (As := []) rfl hd (by rw [hY]; exact lm_X4_51) mc_X3_hasRoom mi_X3_hasRoom ms_X3_hasRoom hst (fits_of hf hc hs) cf_3.2.1 (by decide) ho h rfl rfl w
theorem lm_X4_55 : Cond.methodLink RX4 55 yX4_readContact ∈ gT := gT_mem (i := 451) (by decide +kernel) (by decide +kernel)
theorem k_X4_55 {G : GT} {Y : MD} {Z : ZT} {c0 s0 n pc : Nat} {μ : Mem} {L : List (Nat × AV)} {st : List AV} {a : Int} {Q : Nat → Mem → Prop} (hY : Y.1.cls = RX4) (hd : decode Y.2.1 pc = .ok (.invokevirtual 55, 3)) (hst : st.length ≤ 8) (hf : fitsB Y Y_X4_readContact = true) (hc : c0 + 1 ≤ Y.2.2.2.2.2.2.1) (hs : s0 + 6 ≤ Y.2.2.2.2.2.2.2) (ho : gx G n μ → 0 ≤ a ∧ a < n ∧ SH a = (4, 4)) (h : CV G Y_X4_readContact [.inr a] n μ Q) (w : ∀ (n' : Nat) (ν : Mem), Q n' ν → Wa G Y Z (c0 + 1) (s0 + 6) n' ν (pc + 3) L st) : Wa G Y Z c0 s0 n μ pc L (.inr a :: st) :=
  c_VV (Yc := Y_X4_readContact) (As := []) rfl hd (by rw [hY]; exact lm_X4_55) mc_X4_readContact mi_X4_readContact ms_X4_readContact hst (fits_of hf hc hs) cf_4.2.1 (by decide) ho h rfl rfl w
theorem lm_X4_58 : Cond.methodLink RX4 58 yX4_blame ∈ gT := gT_mem (i := 439) (by decide +kernel) (by decide +kernel)
theorem k_X4_58 {G : GT} {Y : MD} {Z : ZT} {c0 s0 n pc : Nat} {μ : Mem} {L : List (Nat × AV)} {st : List AV} {a : Int} {x0 : Int} {Q : Nat → Mem → Prop} (hY : Y.1.cls = RX4) (hd : decode Y.2.1 pc = .ok (.invokevirtual 58, 3)) (hst : st.length ≤ 8) (hf : fitsB Y Y_X4_blame = true) (hc : c0 + 0 ≤ Y.2.2.2.2.2.2.1) (hs : s0 + 0 ≤ Y.2.2.2.2.2.2.2) (ho : gx G n μ → 0 ≤ a ∧ a < n ∧ SH a = (4, 4)) (h : CV G Y_X4_blame [.inr a, .inl x0] n μ Q) (w : ∀ (n' : Nat) (ν : Mem), Q n' ν → Wa G Y Z c0 s0 n' ν (pc + 3) L st) : Wa G Y Z c0 s0 n μ pc L (.inl x0 :: .inr a :: st) :=
  c_VV (Yc := Y_X4_blame) (As := [.inl x0]) rfl hd (by rw [hY]; exact lm_X4_58) mc_X4_blame mi_X4_blame ms_X4_blame hst (fits_of hf hc hs) cf_4.2.1 (by decide) ho h rfl rfl w
theorem lm_X4_62 : Cond.methodLink RX4 62 yX4_readNumber ∈ gT := gT_mem (i := 428) (by decide +kernel) (by decide +kernel)
theorem k_X4_62 {G : GT} {Y : MD} {Z : ZT} {c0 s0 n pc : Nat} {μ : Mem} {L : List (Nat × AV)} {st : List AV} {a : Int} {x0 x1 x2 : Int} {Q : Int → Nat → Mem → Prop} (hY : Y.1.cls = RX4) (hd : decode Y.2.1 pc = .ok (.invokevirtual 62, 3)) (hst : st.length ≤ 8) (hf : fitsB Y Y_X4_readNumber = true) (hc : c0 + 0 ≤ Y.2.2.2.2.2.2.1) (hs : s0 + 0 ≤ Y.2.2.2.2.2.2.2) (ho : gx G n μ → 0 ≤ a ∧ a < n ∧ SH a = (4, 4)) (h : CI G Y_X4_readNumber [.inr a, .inl x0, .inl x1, .inl x2] n μ Q) (w : ∀ (x : Int) (n' : Nat) (ν : Mem), Q x n' ν → Wa G Y Z c0 s0 n' ν (pc + 3) L (.inl x :: st)) : Wa G Y Z c0 s0 n μ pc L (.inl x2 :: .inl x1 :: .inl x0 :: .inr a :: st) :=
  c_VI (Yc := Y_X4_readNumber) (As := [.inl x0, .inl x1, .inl x2]) rfl hd (by rw [hY]; exact lm_X4_62) mc_X4_readNumber mi_X4_readNumber ms_X4_readNumber hst (fits_of hf hc hs) cf_4.2.1 (by decide) ho h rfl rfl w
theorem lm_X4_66 : Cond.methodLink RX4 66 yX4_readSemicolon ∈ gT := gT_mem (i := 443) (by decide +kernel) (by decide +kernel)
theorem k_X4_66 {G : GT} {Y : MD} {Z : ZT} {c0 s0 n pc : Nat} {μ : Mem} {L : List (Nat × AV)} {st : List AV} {a : Int} {Q : Nat → Mem → Prop} (hY : Y.1.cls = RX4) (hd : decode Y.2.1 pc = .ok (.invokevirtual 66, 3)) (hst : st.length ≤ 8) (hf : fitsB Y Y_X4_readSemicolon = true) (hc : c0 + 0 ≤ Y.2.2.2.2.2.2.1) (hs : s0 + 0 ≤ Y.2.2.2.2.2.2.2) (ho : gx G n μ → 0 ≤ a ∧ a < n ∧ SH a = (4, 4)) (h : CV G Y_X4_readSemicolon [.inr a] n μ Q) (w : ∀ (n' : Nat) (ν : Mem), Q n' ν → Wa G Y Z c0 s0 n' ν (pc + 3) L st) : Wa G Y Z c0 s0 n μ pc L (.inr a :: st) :=
  c_VV (Yc := Y_X4_readSemicolon) (As := []) rfl hd (by rw [hY]; exact lm_X4_66) mc_X4_readSemicolon mi_X4_readSemicolon ms_X4_readSemicolon hst (fits_of hf hc hs) cf_4.2.1 (by decide) ho h rfl rfl w
theorem lm_X4_74 : Cond.methodLink RX4 74 yX1_init ∈ gT := gT_mem (i := 456) (by decide +kernel) (by decide +kernel)
theorem k_X4_74 {G : GT} {Y : MD} {Z : ZT} {c0 s0 n pc : Nat} {μ : Mem} {L : List (Nat × AV)} {st : List AV} {a : Int} {x0 x1 x2 x3 x4 x5 : Int} {Q : Nat → Mem → Prop} (hY : Y.1.cls = RX4) (hd : decode Y.2.1 pc = .ok (.invokespecial 74, 3)) (hst : st.length ≤ 8) (hf : fitsB Y Y_X1_init = true) (hc : c0 + 0 ≤ Y.2.2.2.2.2.2.1) (hs : s0 + 0 ≤ Y.2.2.2.2.2.2.2) (ha : 0 ≤ a) (h : CV G Y_X1_init [.inr a, .inl x0, .inl x1, .inl x2, .inl x3, .inl x4, .inl x5] n μ Q) (w : ∀ (n' : Nat) (ν : Mem), Q n' ν → Wa G Y Z c0 s0 n' ν (pc + 3) L st) : Wa G Y Z c0 s0 n μ pc L (.inl x5 :: .inl x4 :: .inl x3 :: .inl x2 :: .inl x1 :: .inl x0 :: .inr a :: st) :=
  c_N (Yc := Y_X1_init) (As := [.inl x0, .inl x1, .inl x2, .inl x3, .inl x4, .inl x5]) rfl hd (by rw [hY]; exact lm_X4_74) mc_X1_init mi_X1_init rfl rfl hst (fits_of hf hc hs) ha h rfl rfl w
theorem lm_X4_77 : Cond.methodLink RX4 77 yX3_addContact ∈ gT := gT_mem (i := 457) (by decide +kernel) (by decide +kernel)
theorem k_X4_77 {G : GT} {Y : MD} {Z : ZT} {c0 s0 n pc : Nat} {μ : Mem} {L : List (Nat × AV)} {st : List AV} {a : Int} {x0 : Int} {Q : Nat → Mem → Prop} (hY : Y.1.cls = RX4) (hd : decode Y.2.1 pc = .ok (.invokevirtual 77, 3)) (hst : st.length ≤ 8) (hf : fitsB Y Y_X3_addContact = true) (hc : c0 + 0 ≤ Y.2.2.2.2.2.2.1) (hs : s0 + 0 ≤ Y.2.2.2.2.2.2.2) (ho : gx G n μ → 0 ≤ a ∧ a < n ∧ SH a = (3, 4)) (h : CV G Y_X3_addContact [.inr a, .inr x0] n μ Q) (w : ∀ (n' : Nat) (ν : Mem), Q n' ν → Wa G Y Z c0 s0 n' ν (pc + 3) L st) : Wa G Y Z c0 s0 n μ pc L (.inr x0 :: .inr a :: st) :=
  c_VV (Yc := Y_X3_addContact) (As := [.inr x0]) rfl hd (by rw [hY]; exact lm_X4_77) mc_X3_addContact mi_X3_addContact ms_X3_addContact hst (fits_of hf hc hs) cf_3.2.1 (by decide) ho h rfl rfl w
theorem lm_X4_81 : Cond.methodLink RX4 81 yX4_isDigit ∈ gT := gT_mem (i := 432) (by decide +kernel) (by decide +kernel)
theorem k_X4_81 {G : GT} {Y : MD} {Z : ZT} {c0 s0 n pc : Nat} {μ : Mem} {L : List (Nat × AV)} {st : List AV} {x0 : Int} {Q : Int → Nat → Mem → Prop} (hY : Y.1.cls = RX4) (hd : decode Y.2.1 pc = .ok (.invokestatic 81, 3)) (hst : st.length ≤ 8) (hf : fitsB Y Y_X4_isDigit = true) (hc : c0 + 0 ≤ Y.2.2.2.2.2.2.1) (hs : s0 + 0 ≤ Y.2.2.2.2.2.2.2) (h : CI G Y_X4_isDigit [.inl x0] n μ Q) (w : ∀ (x : Int) (n' : Nat) (ν : Mem), Q x n' ν → Wa G Y Z c0 s0 n' ν (pc + 3) L (.inl x :: st)) : Wa G Y Z c0 s0 n μ pc L (.inl x0 :: st) :=
  c_SI (Yc := Y_X4_isDigit) (As := [.inl x0]) rfl hd (by rw [hY]; exact lm_X4_81) mc_X4_isDigit mt_X4_isDigit hst (fits_of hf hc hs) h rfl rfl w
theorem lm_X4_85 : Cond.methodLink RX4 85 Lib.Math.min.name ∈ gT := gT_mem (i := 435) (by decide +kernel) (by decide +kernel)
theorem k_X4_85 {G : GT} {Y : MD} {Z : ZT} {c0 s0 n pc : Nat} {μ : Mem} {L : List (Nat × AV)} {st : List AV} {x y : Int} (hY : Y.1.cls = RX4) (hd : decode Y.2.1 pc = .ok (.invokestatic 85, 3)) (hst : st.length ≤ 7) (hf : Nat.ble 1 Y.2.2.2.2.1 = true) (hlo : Nat.ble 20 Y.2.2.2.2.2.1 = true) (hc : c0 ≤ Y.2.2.2.2.2.2.1) (hs : s0 ≤ Y.2.2.2.2.2.2.2) (w : Wa G Y Z c0 s0 n μ (pc + 3) L (.inl (if y < x then y else x) :: st)) : Wa G Y Z c0 s0 n μ pc L (.inl y :: .inl x :: st) :=
  a_min hd (by rw [hY]; exact lm_X4_85) ma_min_s ma_i ma_min_c hst (Nat.le_of_ble_eq_true hf) (Nat.le_of_ble_eq_true hlo) hc hs w
theorem lm_X4_91 : Cond.methodLinkNest RX4 91 yX10_isWithin "ContactWays" ∈ gN := gN_mem (i := 438) (by decide +kernel) (by decide +kernel)
theorem k_X4_91 {G : GT} {Y : MD} {Z : ZT} {c0 s0 n pc : Nat} {μ : Mem} {L : List (Nat × AV)} {st : List AV} {x0 x1 x2 : Int} {Q : Int → Nat → Mem → Prop} (hY : Y.1.cls = RX4) (hd : decode Y.2.1 pc = .ok (.invokestatic 91, 3)) (hst : st.length ≤ 8) (hf : fitsB Y Y_X10_isWithin = true) (hc : c0 + 0 ≤ Y.2.2.2.2.2.2.1) (hs : s0 + 0 ≤ Y.2.2.2.2.2.2.2) (h : CI G Y_X10_isWithin [.inl x0, .inl x1, .inl x2] n μ Q) (w : ∀ (x : Int) (n' : Nat) (ν : Mem), Q x n' ν → Wa G Y Z c0 s0 n' ν (pc + 3) L (.inl x :: st)) : Wa G Y Z c0 s0 n μ pc L (.inl x2 :: .inl x1 :: .inl x0 :: st) :=
  c_SNI (Yc := Y_X10_isWithin) (As := [.inl x0, .inl x1, .inl x2]) rfl hd (by rw [hY]; exact lm_X4_91) mc_X10_isWithin mt_X10_isWithin hst (fits_of hf hc hs) h rfl rfl w
theorem lm_X5_3 : Cond.methodLink RX5 3 Lib.objectInit ∈ gT := gT_mem (i := 236) (by decide +kernel) (by decide +kernel)
theorem k_X5_3 {G : GT} {Y : MD} {Z : ZT} {c0 s0 n pc : Nat} {μ : Mem} {L : List (Nat × AV)} {st : List AV} {a : Int} (hY : Y.1.cls = RX5) (hd : decode Y.2.1 pc = .ok (.invokespecial 3, 3)) (ha : 0 ≤ a) (hst : st.length ≤ 8) (hf : Nat.ble 1 Y.2.2.2.2.1 = true) (hlo : Nat.ble 20 Y.2.2.2.2.2.1 = true) (w : Wa G Y Z c0 s0 n μ (pc + 3) L st) : Wa G Y Z c0 s0 n μ pc L (.inr a :: st) :=
  a_objInit hd (by rw [hY]; exact lm_X5_3) oi_i oi_c ha hst (Nat.le_of_ble_eq_true hf) (Nat.le_of_ble_eq_true hlo) w
theorem lm_X5_15 : Cond.methodLink RX5 15 yX5_firstOf ∈ gT := gT_mem (i := 582) (by decide +kernel) (by decide +kernel)
theorem k_X5_15 {G : GT} {Y : MD} {Z : ZT} {c0 s0 n pc : Nat} {μ : Mem} {L : List (Nat × AV)} {st : List AV} {a : Int} {x0 x1 : Int} {Q : Int → Nat → Mem → Prop} (hY : Y.1.cls = RX5) (hd : decode Y.2.1 pc = .ok (.invokevirtual 15, 3)) (hst : st.length ≤ 8) (hf : fitsB Y Y_X5_firstOf = true) (hc : c0 + 0 ≤ Y.2.2.2.2.2.2.1) (hs : s0 + 0 ≤ Y.2.2.2.2.2.2.2) (ho : gx G n μ → 0 ≤ a ∧ a < n ∧ SH a = (5, 1)) (h : CI G Y_X5_firstOf [.inr a, .inr x0, .inl x1] n μ Q) (w : ∀ (x : Int) (n' : Nat) (ν : Mem), Q x n' ν → Wa G Y Z c0 s0 n' ν (pc + 3) L (.inl x :: st)) : Wa G Y Z c0 s0 n μ pc L (.inl x1 :: .inr x0 :: .inr a :: st) :=
  c_VI (Yc := Y_X5_firstOf) (As := [.inr x0, .inl x1]) rfl hd (by rw [hY]; exact lm_X5_15) mc_X5_firstOf mi_X5_firstOf ms_X5_firstOf hst (fits_of hf hc hs) cf_5.2.1 (by decide) ho h rfl rfl w
theorem lm_X5_19 : Cond.methodLink RX5 19 yX5_planOne ∈ gT := gT_mem (i := 587) (by decide +kernel) (by decide +kernel)
theorem k_X5_19 {G : GT} {Y : MD} {Z : ZT} {c0 s0 n pc : Nat} {μ : Mem} {L : List (Nat × AV)} {st : List AV} {a : Int} {x0 x1 : Int} {Q : Int → Nat → Mem → Prop} (hY : Y.1.cls = RX5) (hd : decode Y.2.1 pc = .ok (.invokevirtual 19, 3)) (hst : st.length ≤ 8) (hf : fitsB Y Y_X5_planOne = true) (hc : c0 + 0 ≤ Y.2.2.2.2.2.2.1) (hs : s0 + 0 ≤ Y.2.2.2.2.2.2.2) (ho : gx G n μ → 0 ≤ a ∧ a < n ∧ SH a = (5, 1)) (h : CI G Y_X5_planOne [.inr a, .inr x0, .inl x1] n μ Q) (w : ∀ (x : Int) (n' : Nat) (ν : Mem), Q x n' ν → Wa G Y Z c0 s0 n' ν (pc + 3) L (.inl x :: st)) : Wa G Y Z c0 s0 n μ pc L (.inl x1 :: .inr x0 :: .inr a :: st) :=
  c_VI (Yc := Y_X5_planOne) (As := [.inr x0, .inl x1]) rfl hd (by rw [hY]; exact lm_X5_19) mc_X5_planOne mi_X5_planOne ms_X5_planOne hst (fits_of hf hc hs) cf_5.2.1 (by decide) ho h rfl rfl w
theorem lm_X5_23 : Cond.methodLink RX5 23 yX5_pushOut ∈ gT := gT_mem (i := 649) (by decide +kernel) (by decide +kernel)
theorem k_X5_23 {G : GT} {Y : MD} {Z : ZT} {c0 s0 n pc : Nat} {μ : Mem} {L : List (Nat × AV)} {st : List AV} {a : Int} {x0 x1 : Int} {Q : Int → Nat → Mem → Prop} (hY : Y.1.cls = RX5) (hd : decode Y.2.1 pc = .ok (.invokevirtual 23, 3)) (hst : st.length ≤ 8) (hf : fitsB Y Y_X5_pushOut = true) (hc : c0 + 0 ≤ Y.2.2.2.2.2.2.1) (hs : s0 + 0 ≤ Y.2.2.2.2.2.2.2) (ho : gx G n μ → 0 ≤ a ∧ a < n ∧ SH a = (5, 1)) (h : CI G Y_X5_pushOut [.inr a, .inr x0, .inl x1] n μ Q) (w : ∀ (x : Int) (n' : Nat) (ν : Mem), Q x n' ν → Wa G Y Z c0 s0 n' ν (pc + 3) L (.inl x :: st)) : Wa G Y Z c0 s0 n μ pc L (.inl x1 :: .inr x0 :: .inr a :: st) :=
  c_VI (Yc := Y_X5_pushOut) (As := [.inr x0, .inl x1]) rfl hd (by rw [hY]; exact lm_X5_23) mc_X5_pushOut mi_X5_pushOut ms_X5_pushOut hst (fits_of hf hc hs) cf_5.2.1 (by decide) ho h rfl rfl w
theorem lm_X5_32 : Cond.methodLink RX5 32 yX7_bundleAt ∈ gT := gT_mem (i := 586) (by decide +kernel) (by decide +kernel)
theorem k_X5_32 {G : GT} {Y : MD} {Z : ZT} {c0 s0 n pc : Nat} {μ : Mem} {L : List (Nat × AV)} {st : List AV} {a : Int} {x0 : Int} {Q : Int → Nat → Mem → Prop} (hY : Y.1.cls = RX5) (hd : decode Y.2.1 pc = .ok (.invokevirtual 32, 3)) (hst : st.length ≤ 8) (hf : fitsB Y Y_X7_bundleAt = true) (hc : c0 + 0 ≤ Y.2.2.2.2.2.2.1) (hs : s0 + 0 ≤ Y.2.2.2.2.2.2.2) (ho : gx G n μ → 0 ≤ a ∧ a < n ∧ SH a = (7, 5)) (h : CR G Y_X7_bundleAt [.inr a, .inl x0] n μ Q) (w : ∀ (x : Int) (n' : Nat) (ν : Mem), 0 ≤ x → Q x n' ν → Wa G Y Z c0 s0 n' ν (pc + 3) L (.inr x :: st)) : Wa G Y Z c0 s0 n μ pc L (.inl x0 :: .inr a :: st) :=
  c_VR (Yc := Y_X7_bundleAt) (As := [.inl x0]) rfl hd (by rw [hY]; exact lm_X5_32) mc_X7_bundleAt mi_X7_bundleAt ms_X7_bundleAt hst (fits_of hf hc hs) cf_7.2.1 (by decide) ho h rfl rfl w
theorem lm_X5_44 : Cond.methodLink RX5 44 yX0_giveUpHopsToCome ∈ gT := gT_mem (i := 591) (by decide +kernel) (by decide +kernel)
theorem k_X5_44 {G : GT} {Y : MD} {Z : ZT} {c0 s0 n pc : Nat} {μ : Mem} {L : List (Nat × AV)} {st : List AV} {a : Int} {x0 : Int} {Q : Nat → Mem → Prop} (hY : Y.1.cls = RX5) (hd : decode Y.2.1 pc = .ok (.invokevirtual 44, 3)) (hst : st.length ≤ 8) (hf : fitsB Y Y_X0_giveUpHopsToCome = true) (hc : c0 + 0 ≤ Y.2.2.2.2.2.2.1) (hs : s0 + 0 ≤ Y.2.2.2.2.2.2.2) (ho : gx G n μ → 0 ≤ a ∧ a < n ∧ SH a = (0, 9)) (h : CV G Y_X0_giveUpHopsToCome [.inr a, .inl x0] n μ Q) (w : ∀ (n' : Nat) (ν : Mem), Q n' ν → Wa G Y Z c0 s0 n' ν (pc + 3) L st) : Wa G Y Z c0 s0 n μ pc L (.inl x0 :: .inr a :: st) :=
  c_VV (Yc := Y_X0_giveUpHopsToCome) (As := [.inl x0]) rfl hd (by rw [hY]; exact lm_X5_44) mc_X0_giveUpHopsToCome mi_X0_giveUpHopsToCome ms_X0_giveUpHopsToCome hst (fits_of hf hc hs) cf_0.2.1 (by decide) ho h rfl rfl w
theorem lm_X5_48 : Cond.methodLink RX5 48 yX0_lastNode ∈ gT := gT_mem (i := 599) (by decide +kernel) (by decide +kernel)
theorem k_X5_48 {G : GT} {Y : MD} {Z : ZT} {c0 s0 n pc : Nat} {μ : Mem} {L : List (Nat × AV)} {st : List AV} {a : Int} {Q : Int → Nat → Mem → Prop} (hY : Y.1.cls = RX5) (hd : decode Y.2.1 pc = .ok (.invokevirtual 48, 3)) (hst : st.length ≤ 8) (hf : fitsB Y Y_X0_lastNode = true) (hc : c0 + 0 ≤ Y.2.2.2.2.2.2.1) (hs : s0 + 0 ≤ Y.2.2.2.2.2.2.2) (ho : gx G n μ → 0 ≤ a ∧ a < n ∧ SH a = (0, 9)) (h : CI G Y_X0_lastNode [.inr a] n μ Q) (w : ∀ (x : Int) (n' : Nat) (ν : Mem), Q x n' ν → Wa G Y Z c0 s0 n' ν (pc + 3) L (.inl x :: st)) : Wa G Y Z c0 s0 n μ pc L (.inr a :: st) :=
  c_VI (Yc := Y_X0_lastNode) (As := []) rfl hd (by rw [hY]; exact lm_X5_48) mc_X0_lastNode mi_X0_lastNode ms_X0_lastNode hst (fits_of hf hc hs) cf_0.2.1 (by decide) ho h rfl rfl w
theorem lm_X5_64 : Cond.methodLink RX5 64 yX0_lastThere ∈ gT := gT_mem (i := 600) (by decide +kernel) (by decide +kernel)
theorem k_X5_64 {G : GT} {Y : MD} {Z : ZT} {c0 s0 n pc : Nat} {μ : Mem} {L : List (Nat × AV)} {st : List AV} {a : Int} {Q : Int → Nat → Mem → Prop} (hY : Y.1.cls = RX5) (hd : decode Y.2.1 pc = .ok (.invokevirtual 64, 3)) (hst : st.length ≤ 8) (hf : fitsB Y Y_X0_lastThere = true) (hc : c0 + 0 ≤ Y.2.2.2.2.2.2.1) (hs : s0 + 0 ≤ Y.2.2.2.2.2.2.2) (ho : gx G n μ → 0 ≤ a ∧ a < n ∧ SH a = (0, 9)) (h : CI G Y_X0_lastThere [.inr a] n μ Q) (w : ∀ (x : Int) (n' : Nat) (ν : Mem), Q x n' ν → Wa G Y Z c0 s0 n' ν (pc + 3) L (.inl x :: st)) : Wa G Y Z c0 s0 n μ pc L (.inr a :: st) :=
  c_VI (Yc := Y_X0_lastThere) (As := []) rfl hd (by rw [hY]; exact lm_X5_64) mc_X0_lastThere mi_X0_lastThere ms_X0_lastThere hst (fits_of hf hc hs) cf_0.2.1 (by decide) ho h rfl rfl w
theorem lm_X5_67 : Cond.methodLink RX5 67 yX6_lookAt ∈ gT := gT_mem (i := 604) (by decide +kernel) (by decide +kernel)
theorem k_X5_67 {G : GT} {Y : MD} {Z : ZT} {c0 s0 n pc : Nat} {μ : Mem} {L : List (Nat × AV)} {st : List AV} {a : Int} {x0 x1 : Int} {Q : Nat → Mem → Prop} (hY : Y.1.cls = RX5) (hd : decode Y.2.1 pc = .ok (.invokevirtual 67, 3)) (hst : st.length ≤ 8) (hf : fitsB Y Y_X6_lookAt = true) (hc : c0 + 0 ≤ Y.2.2.2.2.2.2.1) (hs : s0 + 0 ≤ Y.2.2.2.2.2.2.2) (ho : gx G n μ → 0 ≤ a ∧ a < n ∧ SH a = (6, 8)) (h : CV G Y_X6_lookAt [.inr a, .inr x0, .inl x1] n μ Q) (w : ∀ (n' : Nat) (ν : Mem), Q n' ν → Wa G Y Z c0 s0 n' ν (pc + 3) L st) : Wa G Y Z c0 s0 n μ pc L (.inl x1 :: .inr x0 :: .inr a :: st) :=
  c_VV (Yc := Y_X6_lookAt) (As := [.inr x0, .inl x1]) rfl hd (by rw [hY]; exact lm_X5_67) mc_X6_lookAt mi_X6_lookAt ms_X6_lookAt hst (fits_of hf hc hs) cf_6.2.1 (by decide) ho h rfl rfl w
theorem lm_X5_76 : Cond.methodLink RX5 76 yX6_seek ∈ gT := gT_mem (i := 628) (by decide +kernel) (by decide +kernel)
theorem k_X5_76 {G : GT} {Y : MD} {Z : ZT} {c0 s0 n pc : Nat} {μ : Mem} {L : List (Nat × AV)} {st : List AV} {a : Int} {x0 x1 x2 x3 x4 : Int} {Q : Int → Nat → Mem → Prop} (hY : Y.1.cls = RX5) (hd : decode Y.2.1 pc = .ok (.invokevirtual 76, 3)) (hst : st.length ≤ 8) (hf : fitsB Y Y_X6_seek = true) (hc : c0 + 0 ≤ Y.2.2.2.2.2.2.1) (hs : s0 + 0 ≤ Y.2.2.2.2.2.2.2) (ho : gx G n μ → 0 ≤ a ∧ a < n ∧ SH a = (6, 8)) (h : CI G Y_X6_seek [.inr a, .inl x0, .inl x1, .inl x2, .inl x3, .inl x4] n μ Q) (w : ∀ (x : Int) (n' : Nat) (ν : Mem), Q x n' ν → Wa G Y Z c0 s0 n' ν (pc + 3) L (.inl x :: st)) : Wa G Y Z c0 s0 n μ pc L (.inl x4 :: .inl x3 :: .inl x2 :: .inl x1 :: .inl x0 :: .inr a :: st) :=
  c_VI (Yc := Y_X6_seek) (As := [.inl x0, .inl x1, .inl x2, .inl x3, .inl x4]) rfl hd (by rw [hY]; exact lm_X5_76) mc_X6_seek mi_X6_seek ms_X6_seek hst (fits_of hf hc hs) cf_6.2.1 (by decide) ho h rfl rfl w
theorem lm_X5_89 : Cond.methodLink RX5 89 yX8_appendFrom ∈ gT := gT_mem (i := 648) (by decide +kernel) (by decide +kernel)
theorem k_X5_89 {G : GT} {Y : MD} {Z : ZT} {c0 s0 n pc : Nat} {μ : Mem} {L : List (Nat × AV)} {st : List AV} {a : Int} {x0 : Int} {Q : Nat → Mem → Prop} (hY : Y.1.cls = RX5) (hd : decode Y.2.1 pc = .ok (.invokevirtual 89, 3)) (hst : st.length ≤ 8) (hf : fitsB Y Y_X8_appendFrom = true) (hc : c0 + 0 ≤ Y.2.2.2.2.2.2.1) (hs : s0 + 0 ≤ Y.2.2.2.2.2.2.2) (ho : gx G n μ → 0 ≤ a ∧ a < n ∧ SH a = (8, 3)) (h : CV G Y_X8_appendFrom [.inr a, .inr x0] n μ Q) (w : ∀ (n' : Nat) (ν : Mem), Q n' ν → Wa G Y Z c0 s0 n' ν (pc + 3) L st) : Wa G Y Z c0 s0 n μ pc L (.inr x0 :: .inr a :: st) :=
  c_VV (Yc := Y_X8_appendFrom) (As := [.inr x0]) rfl hd (by rw [hY]; exact lm_X5_89) mc_X8_appendFrom mi_X8_appendFrom ms_X8_appendFrom hst (fits_of hf hc hs) cf_8.2.1 (by decide) ho h rfl rfl w
theorem lm_X5_93 : Cond.methodLink RX5 93 yX0_standsInTheWayOf ∈ gT := gT_mem (i := 653) (by decide +kernel) (by decide +kernel)
theorem k_X5_93 {G : GT} {Y : MD} {Z : ZT} {c0 s0 n pc : Nat} {μ : Mem} {L : List (Nat × AV)} {st : List AV} {a : Int} {x0 x1 : Int} {Q : Int → Nat → Mem → Prop} (hY : Y.1.cls = RX5) (hd : decode Y.2.1 pc = .ok (.invokevirtual 93, 3)) (hst : st.length ≤ 8) (hf : fitsB Y Y_X0_standsInTheWayOf = true) (hc : c0 + 0 ≤ Y.2.2.2.2.2.2.1) (hs : s0 + 0 ≤ Y.2.2.2.2.2.2.2) (ho : gx G n μ → 0 ≤ a ∧ a < n ∧ SH a = (0, 9)) (h : CI G Y_X0_standsInTheWayOf [.inr a, .inr x0, .inl x1] n μ Q) (w : ∀ (x : Int) (n' : Nat) (ν : Mem), Q x n' ν → Wa G Y Z c0 s0 n' ν (pc + 3) L (.inl x :: st)) : Wa G Y Z c0 s0 n μ pc L (.inl x1 :: .inr x0 :: .inr a :: st) :=
  c_VI (Yc := Y_X0_standsInTheWayOf) (As := [.inr x0, .inl x1]) rfl hd (by rw [hY]; exact lm_X5_93) mc_X0_standsInTheWayOf mi_X0_standsInTheWayOf ms_X0_standsInTheWayOf hst (fits_of hf hc hs) cf_0.2.1 (by decide) ho h rfl rfl w
theorem lm_X6_3 : Cond.methodLink RX6 3 Lib.objectInit ∈ gT := gT_mem (i := 181) (by decide +kernel) (by decide +kernel)
theorem k_X6_3 {G : GT} {Y : MD} {Z : ZT} {c0 s0 n pc : Nat} {μ : Mem} {L : List (Nat × AV)} {st : List AV} {a : Int} (hY : Y.1.cls = RX6) (hd : decode Y.2.1 pc = .ok (.invokespecial 3, 3)) (ha : 0 ≤ a) (hst : st.length ≤ 8) (hf : Nat.ble 1 Y.2.2.2.2.1 = true) (hlo : Nat.ble 20 Y.2.2.2.2.2.1 = true) (w : Wa G Y Z c0 s0 n μ (pc + 3) L st) : Wa G Y Z c0 s0 n μ pc L (.inr a :: st) :=
  a_objInit hd (by rw [hY]; exact lm_X6_3) oi_i oi_c ha hst (Nat.le_of_ble_eq_true hf) (Nat.le_of_ble_eq_true hlo) w
theorem lm_X6_17 : Cond.methodLink RX6 17 yX8_init ∈ gT := gT_mem (i := 184) (by decide +kernel) (by decide +kernel)
theorem k_X6_17 {G : GT} {Y : MD} {Z : ZT} {c0 s0 n pc : Nat} {μ : Mem} {L : List (Nat × AV)} {st : List AV} {a : Int} {x0 x1 : Int} {Q : Nat → Mem → Prop} (hY : Y.1.cls = RX6) (hd : decode Y.2.1 pc = .ok (.invokespecial 17, 3)) (hst : st.length ≤ 8) (hf : fitsB Y Y_X8_init = true) (hc : c0 + 1 ≤ Y.2.2.2.2.2.2.1) (hs : s0 + 800 ≤ Y.2.2.2.2.2.2.2) (ha : 0 ≤ a) (h : CV G Y_X8_init [.inr a, .inl x0, .inl x1] n μ Q) (w : ∀ (n' : Nat) (ν : Mem), Q n' ν → Wa G Y Z (c0 + 1) (s0 + 800) n' ν (pc + 3) L st) : Wa G Y Z c0 s0 n μ pc L (.inl x1 :: .inl x0 :: .inr a :: st) :=
  c_N (Yc := Y_X8_init) (As := [.inl x0, .inl x1]) rfl hd (by rw [hY]; exact lm_X6_17) mc_X8_init mi_X8_init rfl rfl hst (fits_of hf hc hs) ha h rfl rfl w
theorem lm_X6_34 : Cond.methodLink RX6 34 yX6_openWindows ∈ gT := gT_mem (i := 608) (by decide +kernel) (by decide +kernel)
theorem k_X6_34 {G : GT} {Y : MD} {Z : ZT} {c0 s0 n pc : Nat} {μ : Mem} {L : List (Nat × AV)} {st : List AV} {a : Int} {x0 : Int} {Q : Nat → Mem → Prop} (hY : Y.1.cls = RX6) (hd : decode Y.2.1 pc = .ok (.invokevirtual 34, 3)) (hst : st.length ≤ 8) (hf : fitsB Y Y_X6_openWindows = true) (hc : c0 + 0 ≤ Y.2.2.2.2.2.2.1) (hs : s0 + 0 ≤ Y.2.2.2.2.2.2.2) (ho : gx G n μ → 0 ≤ a ∧ a < n ∧ SH a = (6, 8)) (h : CV G Y_X6_openWindows [.inr a, .inr x0] n μ Q) (w : ∀ (n' : Nat) (ν : Mem), Q n' ν → Wa G Y Z c0 s0 n' ν (pc + 3) L st) : Wa G Y Z c0 s0 n μ pc L (.inr x0 :: .inr a :: st) :=
  c_VV (Yc := Y_X6_openWindows) (As := [.inr x0]) rfl hd (by rw [hY]; exact lm_X6_34) mc_X6_openWindows mi_X6_openWindows ms_X6_openWindows hst (fits_of hf hc hs) cf_6.2.1 (by decide) ho h rfl rfl w
theorem lm_X6_43 : Cond.methodLink RX6 43 yX7_bundleAt ∈ gT := gT_mem (i := 618) (by decide +kernel) (by decide +kernel)
theorem k_X6_43 {G : GT} {Y : MD} {Z : ZT} {c0 s0 n pc : Nat} {μ : Mem} {L : List (Nat × AV)} {st : List AV} {a : Int} {x0 : Int} {Q : Int → Nat → Mem → Prop} (hY : Y.1.cls = RX6) (hd : decode Y.2.1 pc = .ok (.invokevirtual 43, 3)) (hst : st.length ≤ 8) (hf : fitsB Y Y_X7_bundleAt = true) (hc : c0 + 0 ≤ Y.2.2.2.2.2.2.1) (hs : s0 + 0 ≤ Y.2.2.2.2.2.2.2) (ho : gx G n μ → 0 ≤ a ∧ a < n ∧ SH a = (7, 5)) (h : CR G Y_X7_bundleAt [.inr a, .inl x0] n μ Q) (w : ∀ (x : Int) (n' : Nat) (ν : Mem), 0 ≤ x → Q x n' ν → Wa G Y Z c0 s0 n' ν (pc + 3) L (.inr x :: st)) : Wa G Y Z c0 s0 n μ pc L (.inl x0 :: .inr a :: st) :=
  c_VR (Yc := Y_X7_bundleAt) (As := [.inl x0]) rfl hd (by rw [hY]; exact lm_X6_43) mc_X7_bundleAt mi_X7_bundleAt ms_X7_bundleAt hst (fits_of hf hc hs) cf_7.2.1 (by decide) ho h rfl rfl w
theorem lm_X6_55 : Cond.methodLink RX6 55 yX8_at ∈ gT := gT_mem (i := 619) (by decide +kernel) (by decide +kernel)
theorem k_X6_55 {G : GT} {Y : MD} {Z : ZT} {c0 s0 n pc : Nat} {μ : Mem} {L : List (Nat × AV)} {st : List AV} {a : Int} {x0 x1 : Int} {Q : Int → Nat → Mem → Prop} (hY : Y.1.cls = RX6) (hd : decode Y.2.1 pc = .ok (.invokevirtual 55, 3)) (hst : st.length ≤ 8) (hf : fitsB Y Y_X8_at = true) (hc : c0 + 0 ≤ Y.2.2.2.2.2.2.1) (hs : s0 + 0 ≤ Y.2.2.2.2.2.2.2) (ho : gx G n μ → 0 ≤ a ∧ a < n ∧ SH a = (8, 3)) (h : CI G Y_X8_at [.inr a, .inl x0, .inl x1] n μ Q) (w : ∀ (x : Int) (n' : Nat) (ν : Mem), Q x n' ν → Wa G Y Z c0 s0 n' ν (pc + 3) L (.inl x :: st)) : Wa G Y Z c0 s0 n μ pc L (.inl x1 :: .inl x0 :: .inr a :: st) :=
  c_VI (Yc := Y_X8_at) (As := [.inl x0, .inl x1]) rfl hd (by rw [hY]; exact lm_X6_55) mc_X8_at mi_X8_at ms_X8_at hst (fits_of hf hc hs) cf_8.2.1 (by decide) ho h rfl rfl w
theorem lm_X6_65 : Cond.methodLink RX6 65 yX6_closeTicks ∈ gT := gT_mem (i := 620) (by decide +kernel) (by decide +kernel)
theorem k_X6_65 {G : GT} {Y : MD} {Z : ZT} {c0 s0 n pc : Nat} {μ : Mem} {L : List (Nat × AV)} {st : List AV} {a : Int} {x0 x1 : Int} {Q : Nat → Mem → Prop} (hY : Y.1.cls = RX6) (hd : decode Y.2.1 pc = .ok (.invokevirtual 65, 3)) (hst : st.length ≤ 8) (hf : fitsB Y Y_X6_closeTicks = true) (hc : c0 + 0 ≤ Y.2.2.2.2.2.2.1) (hs : s0 + 0 ≤ Y.2.2.2.2.2.2.2) (ho : gx G n μ → 0 ≤ a ∧ a < n ∧ SH a = (6, 8)) (h : CV G Y_X6_closeTicks [.inr a, .inr x0, .inl x1] n μ Q) (w : ∀ (n' : Nat) (ν : Mem), Q n' ν → Wa G Y Z c0 s0 n' ν (pc + 3) L st) : Wa G Y Z c0 s0 n μ pc L (.inl x1 :: .inr x0 :: .inr a :: st) :=
  c_VV (Yc := Y_X6_closeTicks) (As := [.inr x0, .inl x1]) rfl hd (by rw [hY]; exact lm_X6_65) mc_X6_closeTicks mi_X6_closeTicks ms_X6_closeTicks hst (fits_of hf hc hs) cf_6.2.1 (by decide) ho h rfl rfl w
theorem lm_X6_69 : Cond.methodLink RX6 69 yX6_countRuns ∈ gT := gT_mem (i := 624) (by decide +kernel) (by decide +kernel)
theorem k_X6_69 {G : GT} {Y : MD} {Z : ZT} {c0 s0 n pc : Nat} {μ : Mem} {L : List (Nat × AV)} {st : List AV} {a : Int} {Q : Nat → Mem → Prop} (hY : Y.1.cls = RX6) (hd : decode Y.2.1 pc = .ok (.invokevirtual 69, 3)) (hst : st.length ≤ 8) (hf : fitsB Y Y_X6_countRuns = true) (hc : c0 + 0 ≤ Y.2.2.2.2.2.2.1) (hs : s0 + 0 ≤ Y.2.2.2.2.2.2.2) (ho : gx G n μ → 0 ≤ a ∧ a < n ∧ SH a = (6, 8)) (h : CV G Y_X6_countRuns [.inr a] n μ Q) (w : ∀ (n' : Nat) (ν : Mem), Q n' ν → Wa G Y Z c0 s0 n' ν (pc + 3) L st) : Wa G Y Z c0 s0 n μ pc L (.inr a :: st) :=
  c_VV (Yc := Y_X6_countRuns) (As := []) rfl hd (by rw [hY]; exact lm_X6_69) mc_X6_countRuns mi_X6_countRuns ms_X6_countRuns hst (fits_of hf hc hs) cf_6.2.1 (by decide) ho h rfl rfl w
theorem lm_X6_72 : Cond.methodLink RX6 72 yX8_cut ∈ gT := gT_mem (i := 612) (by decide +kernel) (by decide +kernel)
theorem k_X6_72 {G : GT} {Y : MD} {Z : ZT} {c0 s0 n pc : Nat} {μ : Mem} {L : List (Nat × AV)} {st : List AV} {a : Int} {x0 : Int} {Q : Nat → Mem → Prop} (hY : Y.1.cls = RX6) (hd : decode Y.2.1 pc = .ok (.invokevirtual 72, 3)) (hst : st.length ≤ 8) (hf : fitsB Y Y_X8_cut = true) (hc : c0 + 0 ≤ Y.2.2.2.2.2.2.1) (hs : s0 + 0 ≤ Y.2.2.2.2.2.2.2) (ho : gx G n μ → 0 ≤ a ∧ a < n ∧ SH a = (8, 3)) (h : CV G Y_X8_cut [.inr a, .inl x0] n μ Q) (w : ∀ (n' : Nat) (ν : Mem), Q n' ν → Wa G Y Z c0 s0 n' ν (pc + 3) L st) : Wa G Y Z c0 s0 n μ pc L (.inl x0 :: .inr a :: st) :=
  c_VV (Yc := Y_X8_cut) (As := [.inl x0]) rfl hd (by rw [hY]; exact lm_X6_72) mc_X8_cut mi_X8_cut ms_X8_cut hst (fits_of hf hc hs) cf_8.2.1 (by decide) ho h rfl rfl w
theorem lm_X6_81 : Cond.methodLink RX6 81 yX3_contactAt ∈ gT := gT_mem (i := 613) (by decide +kernel) (by decide +kernel)
theorem k_X6_81 {G : GT} {Y : MD} {Z : ZT} {c0 s0 n pc : Nat} {μ : Mem} {L : List (Nat × AV)} {st : List AV} {a : Int} {x0 : Int} {Q : Int → Nat → Mem → Prop} (hY : Y.1.cls = RX6) (hd : decode Y.2.1 pc = .ok (.invokevirtual 81, 3)) (hst : st.length ≤ 8) (hf : fitsB Y Y_X3_contactAt = true) (hc : c0 + 0 ≤ Y.2.2.2.2.2.2.1) (hs : s0 + 0 ≤ Y.2.2.2.2.2.2.2) (ho : gx G n μ → 0 ≤ a ∧ a < n ∧ SH a = (3, 4)) (h : CR G Y_X3_contactAt [.inr a, .inl x0] n μ Q) (w : ∀ (x : Int) (n' : Nat) (ν : Mem), 0 ≤ x → Q x n' ν → Wa G Y Z c0 s0 n' ν (pc + 3) L (.inr x :: st)) : Wa G Y Z c0 s0 n μ pc L (.inl x0 :: .inr a :: st) :=
  c_VR (Yc := Y_X3_contactAt) (As := [.inl x0]) rfl hd (by rw [hY]; exact lm_X6_81) mc_X3_contactAt mi_X3_contactAt ms_X3_contactAt hst (fits_of hf hc hs) cf_3.2.1 (by decide) ho h rfl rfl w
theorem lm_X6_90 : Cond.methodLink RX6 90 Lib.Math.max.name ∈ gT := gT_mem (i := 614) (by decide +kernel) (by decide +kernel)
theorem k_X6_90 {G : GT} {Y : MD} {Z : ZT} {c0 s0 n pc : Nat} {μ : Mem} {L : List (Nat × AV)} {st : List AV} {x y : Int} (hY : Y.1.cls = RX6) (hd : decode Y.2.1 pc = .ok (.invokestatic 90, 3)) (hst : st.length ≤ 7) (hf : Nat.ble 1 Y.2.2.2.2.1 = true) (hlo : Nat.ble 20 Y.2.2.2.2.2.1 = true) (hc : c0 ≤ Y.2.2.2.2.2.2.1) (hs : s0 ≤ Y.2.2.2.2.2.2.2) (w : Wa G Y Z c0 s0 n μ (pc + 3) L (.inl (if x < y then y else x) :: st)) : Wa G Y Z c0 s0 n μ pc L (.inl y :: .inl x :: st) :=
  a_max hd (by rw [hY]; exact lm_X6_90) ma_max_s ma_i ma_max_c hst (Nat.le_of_ble_eq_true hf) (Nat.le_of_ble_eq_true hlo) hc hs w
theorem lm_X6_95 : Cond.methodLink RX6 95 yX7_isMissed ∈ gT := gT_mem (i := 615) (by decide +kernel) (by decide +kernel)
theorem k_X6_95 {G : GT} {Y : MD} {Z : ZT} {c0 s0 n pc : Nat} {μ : Mem} {L : List (Nat × AV)} {st : List AV} {a : Int} {x0 : Int} {Q : Int → Nat → Mem → Prop} (hY : Y.1.cls = RX6) (hd : decode Y.2.1 pc = .ok (.invokevirtual 95, 3)) (hst : st.length ≤ 8) (hf : fitsB Y Y_X7_isMissed = true) (hc : c0 + 0 ≤ Y.2.2.2.2.2.2.1) (hs : s0 + 0 ≤ Y.2.2.2.2.2.2.2) (ho : gx G n μ → 0 ≤ a ∧ a < n ∧ SH a = (7, 5)) (h : CI G Y_X7_isMissed [.inr a, .inl x0] n μ Q) (w : ∀ (x : Int) (n' : Nat) (ν : Mem), Q x n' ν → Wa G Y Z c0 s0 n' ν (pc + 3) L (.inl x :: st)) : Wa G Y Z c0 s0 n μ pc L (.inl x0 :: .inr a :: st) :=
  c_VI (Yc := Y_X7_isMissed) (As := [.inl x0]) rfl hd (by rw [hY]; exact lm_X6_95) mc_X7_isMissed mi_X7_isMissed ms_X7_isMissed hst (fits_of hf hc hs) cf_7.2.1 (by decide) ho h rfl rfl w
theorem lm_X6_102 : Cond.methodLink RX6 102 yX8_addRow ∈ gT := gT_mem (i := 616) (by decide +kernel) (by decide +kernel)
theorem k_X6_102 {G : GT} {Y : MD} {Z : ZT} {c0 s0 n pc : Nat} {μ : Mem} {L : List (Nat × AV)} {st : List AV} {a : Int} {Q : Int → Nat → Mem → Prop} (hY : Y.1.cls = RX6) (hd : decode Y.2.1 pc = .ok (.invokevirtual 102, 3)) (hst : st.length ≤ 8) (hf : fitsB Y Y_X8_addRow = true) (hc : c0 + 0 ≤ Y.2.2.2.2.2.2.1) (hs : s0 + 0 ≤ Y.2.2.2.2.2.2.2) (ho : gx G n μ → 0 ≤ a ∧ a < n ∧ SH a = (8, 3)) (h : CI G Y_X8_addRow [.inr a] n μ Q) (w : ∀ (x : Int) (n' : Nat) (ν : Mem), Q x n' ν → Wa G Y Z c0 s0 n' ν (pc + 3) L (.inl x :: st)) : Wa G Y Z c0 s0 n μ pc L (.inr a :: st) :=
  c_VI (Yc := Y_X8_addRow) (As := []) rfl hd (by rw [hY]; exact lm_X6_102) mc_X8_addRow mi_X8_addRow ms_X8_addRow hst (fits_of hf hc hs) cf_8.2.1 (by decide) ho h rfl rfl w
theorem lm_X6_106 : Cond.methodLink RX6 106 yX8_put ∈ gT := gT_mem (i := 617) (by decide +kernel) (by decide +kernel)
theorem k_X6_106 {G : GT} {Y : MD} {Z : ZT} {c0 s0 n pc : Nat} {μ : Mem} {L : List (Nat × AV)} {st : List AV} {a : Int} {x0 x1 x2 : Int} {Q : Nat → Mem → Prop} (hY : Y.1.cls = RX6) (hd : decode Y.2.1 pc = .ok (.invokevirtual 106, 3)) (hst : st.length ≤ 8) (hf : fitsB Y Y_X8_put = true) (hc : c0 + 0 ≤ Y.2.2.2.2.2.2.1) (hs : s0 + 0 ≤ Y.2.2.2.2.2.2.2) (ho : gx G n μ → 0 ≤ a ∧ a < n ∧ SH a = (8, 3)) (h : CV G Y_X8_put [.inr a, .inl x0, .inl x1, .inl x2] n μ Q) (w : ∀ (n' : Nat) (ν : Mem), Q n' ν → Wa G Y Z c0 s0 n' ν (pc + 3) L st) : Wa G Y Z c0 s0 n μ pc L (.inl x2 :: .inl x1 :: .inl x0 :: .inr a :: st) :=
  c_VV (Yc := Y_X8_put) (As := [.inl x0, .inl x1, .inl x2]) rfl hd (by rw [hY]; exact lm_X6_106) mc_X8_put mi_X8_put ms_X8_put hst (fits_of hf hc hs) cf_8.2.1 (by decide) ho h rfl rfl w
theorem lm_X6_119 : Cond.methodLink RX6 119 yX6_explore ∈ gT := gT_mem (i := 632) (by decide +kernel) (by decide +kernel)
theorem k_X6_119 {G : GT} {Y : MD} {Z : ZT} {c0 s0 n pc : Nat} {μ : Mem} {L : List (Nat × AV)} {st : List AV} {d : Nat} {x0 x1 x2 x3 x4 : Int} {Q : Nat → Mem → Prop} (hY : Y.1.cls = RX6) (hd : decode Y.2.1 pc = .ok (.invokestatic 119, 3)) (hst : st.length ≤ 8) (hf : fitsB Y (Y_X6_explore d) = true) (hc : c0 + 0 ≤ Y.2.2.2.2.2.2.1) (hs : s0 + 0 ≤ Y.2.2.2.2.2.2.2) (h : CV G (Y_X6_explore d) [.inr x0, .inl x1, .inl x2, .inl x3, .inl x4] n μ Q) (w : ∀ (n' : Nat) (ν : Mem), Q n' ν → Wa G Y Z c0 s0 n' ν (pc + 3) L st) : Wa G Y Z c0 s0 n μ pc L (.inl x4 :: .inl x3 :: .inl x2 :: .inl x1 :: .inr x0 :: st) :=
  c_SV (Yc := (Y_X6_explore d)) (As := [.inr x0, .inl x1, .inl x2, .inl x3, .inl x4]) rfl hd (by rw [hY]; exact lm_X6_119) (mc_X6_explore d) mt_X6_explore hst (fits_of hf hc hs) h rfl rfl w
theorem lm_X6_129 : Cond.methodLink RX6 129 yX1_ticksFor ∈ gT := gT_mem (i := 635) (by decide +kernel) (by decide +kernel)
theorem k_X6_129 {G : GT} {Y : MD} {Z : ZT} {c0 s0 n pc : Nat} {μ : Mem} {L : List (Nat × AV)} {st : List AV} {a : Int} {x0 : Int} {Q : Int → Nat → Mem → Prop} (hY : Y.1.cls = RX6) (hd : decode Y.2.1 pc = .ok (.invokevirtual 129, 3)) (hst : st.length ≤ 8) (hf : fitsB Y Y_X1_ticksFor = true) (hc : c0 + 0 ≤ Y.2.2.2.2.2.2.1) (hs : s0 + 0 ≤ Y.2.2.2.2.2.2.2) (ho : gx G n μ → 0 ≤ a ∧ a < n ∧ SH a = (1, 6)) (h : CI G Y_X1_ticksFor [.inr a, .inl x0] n μ Q) (w : ∀ (x : Int) (n' : Nat) (ν : Mem), Q x n' ν → Wa G Y Z c0 s0 n' ν (pc + 3) L (.inl x :: st)) : Wa G Y Z c0 s0 n μ pc L (.inl x0 :: .inr a :: st) :=
  c_VI (Yc := Y_X1_ticksFor) (As := [.inl x0]) rfl hd (by rw [hY]; exact lm_X6_129) mc_X1_ticksFor mi_X1_ticksFor ms_X1_ticksFor hst (fits_of hf hc hs) cf_1.2.1 (by decide) ho h rfl rfl w
theorem lm_X6_133 : Cond.methodLink RX6 133 yX6_firstBegin ∈ gT := gT_mem (i := 639) (by decide +kernel) (by decide +kernel)
theorem k_X6_133 {G : GT} {Y : MD} {Z : ZT} {c0 s0 n pc : Nat} {μ : Mem} {L : List (Nat × AV)} {st : List AV} {a : Int} {x0 x1 x2 : Int} {Q : Int → Nat → Mem → Prop} (hY : Y.1.cls = RX6) (hd : decode Y.2.1 pc = .ok (.invokevirtual 133, 3)) (hst : st.length ≤ 8) (hf : fitsB Y Y_X6_firstBegin = true) (hc : c0 + 0 ≤ Y.2.2.2.2.2.2.1) (hs : s0 + 0 ≤ Y.2.2.2.2.2.2.2) (ho : gx G n μ → 0 ≤ a ∧ a < n ∧ SH a = (6, 8)) (h : CI G Y_X6_firstBegin [.inr a, .inl x0, .inl x1, .inl x2] n μ Q) (w : ∀ (x : Int) (n' : Nat) (ν : Mem), Q x n' ν → Wa G Y Z c0 s0 n' ν (pc + 3) L (.inl x :: st)) : Wa G Y Z c0 s0 n μ pc L (.inl x2 :: .inl x1 :: .inl x0 :: .inr a :: st) :=
  c_VI (Yc := Y_X6_firstBegin) (As := [.inl x0, .inl x1, .inl x2]) rfl hd (by rw [hY]; exact lm_X6_133) mc_X6_firstBegin mi_X6_firstBegin ms_X6_firstBegin hst (fits_of hf hc hs) cf_6.2.1 (by decide) ho h rfl rfl w
theorem lm_X6_140 : Cond.methodLink RX6 140 yX6_setTrail ∈ gT := gT_mem (i := 643) (by decide +kernel) (by decide +kernel)
theorem k_X6_140 {G : GT} {Y : MD} {Z : ZT} {c0 s0 n pc : Nat} {μ : Mem} {L : List (Nat × AV)} {st : List AV} {a : Int} {x0 x1 x2 x3 x4 : Int} {Q : Nat → Mem → Prop} (hY : Y.1.cls = RX6) (hd : decode Y.2.1 pc = .ok (.invokevirtual 140, 3)) (hst : st.length ≤ 8) (hf : fitsB Y Y_X6_setTrail = true) (hc : c0 + 0 ≤ Y.2.2.2.2.2.2.1) (hs : s0 + 0 ≤ Y.2.2.2.2.2.2.2) (ho : gx G n μ → 0 ≤ a ∧ a < n ∧ SH a = (6, 8)) (h : CV G Y_X6_setTrail [.inr a, .inl x0, .inl x1, .inl x2, .inl x3, .inl x4] n μ Q) (w : ∀ (n' : Nat) (ν : Mem), Q n' ν → Wa G Y Z c0 s0 n' ν (pc + 3) L st) : Wa G Y Z c0 s0 n μ pc L (.inl x4 :: .inl x3 :: .inl x2 :: .inl x1 :: .inl x0 :: .inr a :: st) :=
  c_VV (Yc := Y_X6_setTrail) (As := [.inl x0, .inl x1, .inl x2, .inl x3, .inl x4]) rfl hd (by rw [hY]; exact lm_X6_140) mc_X6_setTrail mi_X6_setTrail ms_X6_setTrail hst (fits_of hf hc hs) cf_6.2.1 (by decide) ho h rfl rfl w
theorem lm_X6_144 : Cond.methodLink RX6 144 yX8_appendFrom ∈ gT := gT_mem (i := 647) (by decide +kernel) (by decide +kernel)
theorem k_X6_144 {G : GT} {Y : MD} {Z : ZT} {c0 s0 n pc : Nat} {μ : Mem} {L : List (Nat × AV)} {st : List AV} {a : Int} {x0 : Int} {Q : Nat → Mem → Prop} (hY : Y.1.cls = RX6) (hd : decode Y.2.1 pc = .ok (.invokevirtual 144, 3)) (hst : st.length ≤ 8) (hf : fitsB Y Y_X8_appendFrom = true) (hc : c0 + 0 ≤ Y.2.2.2.2.2.2.1) (hs : s0 + 0 ≤ Y.2.2.2.2.2.2.2) (ho : gx G n μ → 0 ≤ a ∧ a < n ∧ SH a = (8, 3)) (h : CV G Y_X8_appendFrom [.inr a, .inr x0] n μ Q) (w : ∀ (n' : Nat) (ν : Mem), Q n' ν → Wa G Y Z c0 s0 n' ν (pc + 3) L st) : Wa G Y Z c0 s0 n μ pc L (.inr x0 :: .inr a :: st) :=
  c_VV (Yc := Y_X8_appendFrom) (As := [.inr x0]) rfl hd (by rw [hY]; exact lm_X6_144) mc_X8_appendFrom mi_X8_appendFrom ms_X8_appendFrom hst (fits_of hf hc hs) cf_8.2.1 (by decide) ho h rfl rfl w
theorem lm_X7_3 : Cond.methodLink RX7 3 Lib.objectInit ∈ gT := gT_mem (i := 246) (by decide +kernel) (by decide +kernel)
theorem k_X7_3 {G : GT} {Y : MD} {Z : ZT} {c0 s0 n pc : Nat} {μ : Mem} {L : List (Nat × AV)} {st : List AV} {a : Int} (hY : Y.1.cls = RX7) (hd : decode Y.2.1 pc = .ok (.invokespecial 3, 3)) (ha : 0 ≤ a) (hst : st.length ≤ 8) (hf : Nat.ble 1 Y.2.2.2.2.1 = true) (hlo : Nat.ble 20 Y.2.2.2.2.2.1 = true) (w : Wa G Y Z c0 s0 n μ (pc + 3) L st) : Wa G Y Z c0 s0 n μ pc L (.inr a :: st) :=
  a_objInit hd (by rw [hY]; exact lm_X7_3) oi_i oi_c ha hst (Nat.le_of_ble_eq_true hf) (Nat.le_of_ble_eq_true hlo) w
theorem lm_X7_11 : Cond.methodLink RX7 11 yX0_init ∈ gT := gT_mem (i := 249) (by decide +kernel) (by decide +kernel)
theorem k_X7_11 {G : GT} {Y : MD} {Z : ZT} {c0 s0 n pc : Nat} {μ : Mem} {L : List (Nat × AV)} {st : List AV} {a : Int} {x0 : Int} {Q : Nat → Mem → Prop} (hY : Y.1.cls = RX7) (hd : decode Y.2.1 pc = .ok (.invokespecial 11, 3)) (hst : st.length ≤ 8) (hf : fitsB Y Y_X0_init = true) (hc : c0 + 2 ≤ Y.2.2.2.2.2.2.1) (hs : s0 + 803 ≤ Y.2.2.2.2.2.2.2) (ha : 0 ≤ a) (h : CV G Y_X0_init [.inr a, .inr x0] n μ Q) (w : ∀ (n' : Nat) (ν : Mem), Q n' ν → Wa G Y Z (c0 + 2) (s0 + 803) n' ν (pc + 3) L st) : Wa G Y Z c0 s0 n μ pc L (.inr x0 :: .inr a :: st) :=
  c_N (Yc := Y_X0_init) (As := [.inr x0]) rfl hd (by rw [hY]; exact lm_X7_11) mc_X0_init mi_X0_init rfl rfl hst (fits_of hf hc hs) ha h rfl rfl w
theorem lm_X7_34 : Cond.methodLink RX7 34 yX7_bundleAt ∈ gT := gT_mem (i := 524) (by decide +kernel) (by decide +kernel)
theorem k_X7_34 {G : GT} {Y : MD} {Z : ZT} {c0 s0 n pc : Nat} {μ : Mem} {L : List (Nat × AV)} {st : List AV} {a : Int} {x0 : Int} {Q : Int → Nat → Mem → Prop} (hY : Y.1.cls = RX7) (hd : decode Y.2.1 pc = .ok (.invokevirtual 34, 3)) (hst : st.length ≤ 8) (hf : fitsB Y Y_X7_bundleAt = true) (hc : c0 + 0 ≤ Y.2.2.2.2.2.2.1) (hs : s0 + 0 ≤ Y.2.2.2.2.2.2.2) (ho : gx G n μ → 0 ≤ a ∧ a < n ∧ SH a = (7, 5)) (h : CR G Y_X7_bundleAt [.inr a, .inl x0] n μ Q) (w : ∀ (x : Int) (n' : Nat) (ν : Mem), 0 ≤ x → Q x n' ν → Wa G Y Z c0 s0 n' ν (pc + 3) L (.inr x :: st)) : Wa G Y Z c0 s0 n μ pc L (.inl x0 :: .inr a :: st) :=
  c_VR (Yc := Y_X7_bundleAt) (As := [.inl x0]) rfl hd (by rw [hY]; exact lm_X7_34) mc_X7_bundleAt mi_X7_bundleAt ms_X7_bundleAt hst (fits_of hf hc hs) cf_7.2.1 (by decide) ho h rfl rfl w
theorem lm_X7_38 : Cond.methodLink RX7 38 yX0_copyFrom ∈ gT := gT_mem (i := 528) (by decide +kernel) (by decide +kernel)
theorem k_X7_38 {G : GT} {Y : MD} {Z : ZT} {c0 s0 n pc : Nat} {μ : Mem} {L : List (Nat × AV)} {st : List AV} {a : Int} {x0 : Int} {Q : Nat → Mem → Prop} (hY : Y.1.cls = RX7) (hd : decode Y.2.1 pc = .ok (.invokevirtual 38, 3)) (hst : st.length ≤ 8) (hf : fitsB Y Y_X0_copyFrom = true) (hc : c0 + 0 ≤ Y.2.2.2.2.2.2.1) (hs : s0 + 0 ≤ Y.2.2.2.2.2.2.2) (ho : gx G n μ → 0 ≤ a ∧ a < n ∧ SH a = (0, 9)) (h : CV G Y_X0_copyFrom [.inr a, .inr x0] n μ Q) (w : ∀ (n' : Nat) (ν : Mem), Q n' ν → Wa G Y Z c0 s0 n' ν (pc + 3) L st) : Wa G Y Z c0 s0 n μ pc L (.inr x0 :: .inr a :: st) :=
  c_VV (Yc := Y_X0_copyFrom) (As := [.inr x0]) rfl hd (by rw [hY]; exact lm_X7_38) mc_X0_copyFrom mi_X0_copyFrom ms_X0_copyFrom hst (fits_of hf hc hs) cf_0.2.1 (by decide) ho h rfl rfl w
theorem lm_X7_42 : Cond.methodLink RX7 42 yX0_standing ∈ gT := gT_mem (i := 568) (by decide +kernel) (by decide +kernel)
theorem k_X7_42 {G : GT} {Y : MD} {Z : ZT} {c0 s0 n pc : Nat} {μ : Mem} {L : List (Nat × AV)} {st : List AV} {a : Int} {x0 : Int} {Q : Int → Nat → Mem → Prop} (hY : Y.1.cls = RX7) (hd : decode Y.2.1 pc = .ok (.invokevirtual 42, 3)) (hst : st.length ≤ 8) (hf : fitsB Y Y_X0_standing = true) (hc : c0 + 0 ≤ Y.2.2.2.2.2.2.1) (hs : s0 + 0 ≤ Y.2.2.2.2.2.2.2) (ho : gx G n μ → 0 ≤ a ∧ a < n ∧ SH a = (0, 9)) (h : CI G Y_X0_standing [.inr a, .inl x0] n μ Q) (w : ∀ (x : Int) (n' : Nat) (ν : Mem), Q x n' ν → Wa G Y Z c0 s0 n' ν (pc + 3) L (.inl x :: st)) : Wa G Y Z c0 s0 n μ pc L (.inl x0 :: .inr a :: st) :=
  c_VI (Yc := Y_X0_standing) (As := [.inl x0]) rfl hd (by rw [hY]; exact lm_X7_42) mc_X0_standing mi_X0_standing ms_X0_standing hst (fits_of hf hc hs) cf_0.2.1 (by decide) ho h rfl rfl w
theorem lm_X7_46 : Cond.methodLink RX7 46 yX7_allStanding ∈ gT := gT_mem (i := 709) (by decide +kernel) (by decide +kernel)
theorem k_X7_46 {G : GT} {Y : MD} {Z : ZT} {c0 s0 n pc : Nat} {μ : Mem} {L : List (Nat × AV)} {st : List AV} {a : Int} {x0 : Int} {Q : Int → Nat → Mem → Prop} (hY : Y.1.cls = RX7) (hd : decode Y.2.1 pc = .ok (.invokevirtual 46, 3)) (hst : st.length ≤ 8) (hf : fitsB Y Y_X7_allStanding = true) (hc : c0 + 0 ≤ Y.2.2.2.2.2.2.1) (hs : s0 + 0 ≤ Y.2.2.2.2.2.2.2) (ho : gx G n μ → 0 ≤ a ∧ a < n ∧ SH a = (7, 5)) (h : CI G Y_X7_allStanding [.inr a, .inl x0] n μ Q) (w : ∀ (x : Int) (n' : Nat) (ν : Mem), Q x n' ν → Wa G Y Z c0 s0 n' ν (pc + 3) L (.inl x :: st)) : Wa G Y Z c0 s0 n μ pc L (.inl x0 :: .inr a :: st) :=
  c_VI (Yc := Y_X7_allStanding) (As := [.inl x0]) rfl hd (by rw [hY]; exact lm_X7_46) mc_X7_allStanding mi_X7_allStanding ms_X7_allStanding hst (fits_of hf hc hs) cf_7.2.1 (by decide) ho h rfl rfl w
theorem lm_X7_49 : Cond.methodLink RX7 49 yJ6_bitCount_0f7a4 ∈ gT := gT_mem (i := 713) (by decide +kernel) (by decide +kernel)
theorem k_X7_49 {G : GT} {Y : MD} {Z : ZT} {c0 s0 n pc : Nat} {μ : Mem} {L : List (Nat × AV)} {st : List AV} {x0 : Int} {Q : Int → Nat → Mem → Prop} (hY : Y.1.cls = RX7) (hd : decode Y.2.1 pc = .ok (.invokestatic 49, 3)) (hst : st.length ≤ 8) (hf : fitsB Y Y_J6_bitCount_0f7a4 = true) (hc : c0 + 0 ≤ Y.2.2.2.2.2.2.1) (hs : s0 + 0 ≤ Y.2.2.2.2.2.2.2) (h : CI G Y_J6_bitCount_0f7a4 [.inl x0] n μ Q) (w : ∀ (x : Int) (n' : Nat) (ν : Mem), Q x n' ν → Wa G Y Z c0 s0 n' ν (pc + 3) L (.inl x :: st)) : Wa G Y Z c0 s0 n μ pc L (.inl x0 :: st) :=
  c_SI (Yc := Y_J6_bitCount_0f7a4) (As := [.inl x0]) rfl hd (by rw [hY]; exact lm_X7_49) mc_J6_bitCount_0f7a4 mt_J6_bitCount_0f7a4 hst (fits_of hf hc hs) h rfl rfl w
theorem lm_X7_54 : Cond.methodLink RX7 54 yX0_lastThere ∈ gT := gT_mem (i := 661) (by decide +kernel) (by decide +kernel)
theorem k_X7_54 {G : GT} {Y : MD} {Z : ZT} {c0 s0 n pc : Nat} {μ : Mem} {L : List (Nat × AV)} {st : List AV} {a : Int} {Q : Int → Nat → Mem → Prop} (hY : Y.1.cls = RX7) (hd : decode Y.2.1 pc = .ok (.invokevirtual 54, 3)) (hst : st.length ≤ 8) (hf : fitsB Y Y_X0_lastThere = true) (hc : c0 + 0 ≤ Y.2.2.2.2.2.2.1) (hs : s0 + 0 ≤ Y.2.2.2.2.2.2.2) (ho : gx G n μ → 0 ≤ a ∧ a < n ∧ SH a = (0, 9)) (h : CI G Y_X0_lastThere [.inr a] n μ Q) (w : ∀ (x : Int) (n' : Nat) (ν : Mem), Q x n' ν → Wa G Y Z c0 s0 n' ν (pc + 3) L (.inl x :: st)) : Wa G Y Z c0 s0 n μ pc L (.inr a :: st) :=
  c_VI (Yc := Y_X0_lastThere) (As := []) rfl hd (by rw [hY]; exact lm_X7_54) mc_X0_lastThere mi_X0_lastThere ms_X0_lastThere hst (fits_of hf hc hs) cf_0.2.1 (by decide) ho h rfl rfl w
theorem lm_X7_58 : Cond.methodLink RX7 58 yX0_takes ∈ gT := gT_mem (i := 758) (by decide +kernel) (by decide +kernel)
theorem k_X7_58 {G : GT} {Y : MD} {Z : ZT} {c0 s0 n pc : Nat} {μ : Mem} {L : List (Nat × AV)} {st : List AV} {a : Int} {x0 x1 : Int} {Q : Int → Nat → Mem → Prop} (hY : Y.1.cls = RX7) (hd : decode Y.2.1 pc = .ok (.invokevirtual 58, 3)) (hst : st.length ≤ 8) (hf : fitsB Y Y_X0_takes = true) (hc : c0 + 0 ≤ Y.2.2.2.2.2.2.1) (hs : s0 + 0 ≤ Y.2.2.2.2.2.2.2) (ho : gx G n μ → 0 ≤ a ∧ a < n ∧ SH a = (0, 9)) (h : CI G Y_X0_takes [.inr a, .inl x0, .inl x1] n μ Q) (w : ∀ (x : Int) (n' : Nat) (ν : Mem), Q x n' ν → Wa G Y Z c0 s0 n' ν (pc + 3) L (.inl x :: st)) : Wa G Y Z c0 s0 n μ pc L (.inl x1 :: .inl x0 :: .inr a :: st) :=
  c_VI (Yc := Y_X0_takes) (As := [.inl x0, .inl x1]) rfl hd (by rw [hY]; exact lm_X7_58) mc_X0_takes mi_X0_takes ms_X0_takes hst (fits_of hf hc hs) cf_0.2.1 (by decide) ho h rfl rfl w
theorem lm_X7_62 : Cond.methodLink RX7 62 yX0_arrive ∈ gT := gT_mem (i := 683) (by decide +kernel) (by decide +kernel)
theorem k_X7_62 {G : GT} {Y : MD} {Z : ZT} {c0 s0 n pc : Nat} {μ : Mem} {L : List (Nat × AV)} {st : List AV} {a : Int} {x0 : Int} {Q : Nat → Mem → Prop} (hY : Y.1.cls = RX7) (hd : decode Y.2.1 pc = .ok (.invokevirtual 62, 3)) (hst : st.length ≤ 8) (hf : fitsB Y Y_X0_arrive = true) (hc : c0 + 0 ≤ Y.2.2.2.2.2.2.1) (hs : s0 + 0 ≤ Y.2.2.2.2.2.2.2) (ho : gx G n μ → 0 ≤ a ∧ a < n ∧ SH a = (0, 9)) (h : CV G Y_X0_arrive [.inr a, .inl x0] n μ Q) (w : ∀ (n' : Nat) (ν : Mem), Q n' ν → Wa G Y Z c0 s0 n' ν (pc + 3) L st) : Wa G Y Z c0 s0 n μ pc L (.inl x0 :: .inr a :: st) :=
  c_VV (Yc := Y_X0_arrive) (As := [.inl x0]) rfl hd (by rw [hY]; exact lm_X7_62) mc_X0_arrive mi_X0_arrive ms_X0_arrive hst (fits_of hf hc hs) cf_0.2.1 (by decide) ho h rfl rfl w
theorem lm_X7_66 : Cond.methodLink RX7 66 yX0_loses ∈ gT := gT_mem (i := 700) (by decide +kernel) (by decide +kernel)
theorem k_X7_66 {G : GT} {Y : MD} {Z : ZT} {c0 s0 n pc : Nat} {μ : Mem} {L : List (Nat × AV)} {st : List AV} {a : Int} {x0 x1 : Int} {Q : Int → Nat → Mem → Prop} (hY : Y.1.cls = RX7) (hd : decode Y.2.1 pc = .ok (.invokevirtual 66, 3)) (hst : st.length ≤ 8) (hf : fitsB Y Y_X0_loses = true) (hc : c0 + 0 ≤ Y.2.2.2.2.2.2.1) (hs : s0 + 0 ≤ Y.2.2.2.2.2.2.2) (ho : gx G n μ → 0 ≤ a ∧ a < n ∧ SH a = (0, 9)) (h : CI G Y_X0_loses [.inr a, .inl x0, .inl x1] n μ Q) (w : ∀ (x : Int) (n' : Nat) (ν : Mem), Q x n' ν → Wa G Y Z c0 s0 n' ν (pc + 3) L (.inl x :: st)) : Wa G Y Z c0 s0 n μ pc L (.inl x1 :: .inl x0 :: .inr a :: st) :=
  c_VI (Yc := Y_X0_loses) (As := [.inl x0, .inl x1]) rfl hd (by rw [hY]; exact lm_X7_66) mc_X0_loses mi_X0_loses ms_X0_loses hst (fits_of hf hc hs) cf_0.2.1 (by decide) ho h rfl rfl w
theorem lm_X7_69 : Cond.methodLink RX7 69 yX7_isOpen ∈ gT := gT_mem (i := 704) (by decide +kernel) (by decide +kernel)
theorem k_X7_69 {G : GT} {Y : MD} {Z : ZT} {c0 s0 n pc : Nat} {μ : Mem} {L : List (Nat × AV)} {st : List AV} {a : Int} {x0 : Int} {Q : Int → Nat → Mem → Prop} (hY : Y.1.cls = RX7) (hd : decode Y.2.1 pc = .ok (.invokevirtual 69, 3)) (hst : st.length ≤ 8) (hf : fitsB Y Y_X7_isOpen = true) (hc : c0 + 0 ≤ Y.2.2.2.2.2.2.1) (hs : s0 + 0 ≤ Y.2.2.2.2.2.2.2) (ho : gx G n μ → 0 ≤ a ∧ a < n ∧ SH a = (7, 5)) (h : CI G Y_X7_isOpen [.inr a, .inl x0] n μ Q) (w : ∀ (x : Int) (n' : Nat) (ν : Mem), Q x n' ν → Wa G Y Z c0 s0 n' ν (pc + 3) L (.inl x :: st)) : Wa G Y Z c0 s0 n μ pc L (.inl x0 :: .inr a :: st) :=
  c_VI (Yc := Y_X7_isOpen) (As := [.inl x0]) rfl hd (by rw [hY]; exact lm_X7_69) mc_X7_isOpen mi_X7_isOpen ms_X7_isOpen hst (fits_of hf hc hs) cf_7.2.1 (by decide) ho h rfl rfl w
theorem lm_X8_3 : Cond.methodLink RX8 3 Lib.objectInit ∈ gT := gT_mem (i := 187) (by decide +kernel) (by decide +kernel)
theorem k_X8_3 {G : GT} {Y : MD} {Z : ZT} {c0 s0 n pc : Nat} {μ : Mem} {L : List (Nat × AV)} {st : List AV} {a : Int} (hY : Y.1.cls = RX8) (hd : decode Y.2.1 pc = .ok (.invokespecial 3, 3)) (ha : 0 ≤ a) (hst : st.length ≤ 8) (hf : Nat.ble 1 Y.2.2.2.2.1 = true) (hlo : Nat.ble 20 Y.2.2.2.2.2.1 = true) (w : Wa G Y Z c0 s0 n μ (pc + 3) L st) : Wa G Y Z c0 s0 n μ pc L (.inr a :: st) :=
  a_objInit hd (by rw [hY]; exact lm_X8_3) oi_i oi_c ha hst (Nat.le_of_ble_eq_true hf) (Nat.le_of_ble_eq_true hlo) w
theorem lm_X8_15 : Cond.methodLink RX8 15 Lib.Math.max.name ∈ gT := gT_mem (i := 188) (by decide +kernel) (by decide +kernel)
theorem k_X8_15 {G : GT} {Y : MD} {Z : ZT} {c0 s0 n pc : Nat} {μ : Mem} {L : List (Nat × AV)} {st : List AV} {x y : Int} (hY : Y.1.cls = RX8) (hd : decode Y.2.1 pc = .ok (.invokestatic 15, 3)) (hst : st.length ≤ 7) (hf : Nat.ble 1 Y.2.2.2.2.1 = true) (hlo : Nat.ble 20 Y.2.2.2.2.2.1 = true) (hc : c0 ≤ Y.2.2.2.2.2.2.1) (hs : s0 ≤ Y.2.2.2.2.2.2.2) (w : Wa G Y Z c0 s0 n μ (pc + 3) L (.inl (if x < y then y else x) :: st)) : Wa G Y Z c0 s0 n μ pc L (.inl y :: .inl x :: st) :=
  a_max hd (by rw [hY]; exact lm_X8_15) ma_max_s ma_i ma_max_c hst (Nat.le_of_ble_eq_true hf) (Nat.le_of_ble_eq_true hlo) hc hs w
theorem lm_X8_28 : Cond.methodLink RX8 28 Lib.Math.min.name ∈ gT := gT_mem (i := 482) (by decide +kernel) (by decide +kernel)
theorem k_X8_28 {G : GT} {Y : MD} {Z : ZT} {c0 s0 n pc : Nat} {μ : Mem} {L : List (Nat × AV)} {st : List AV} {x y : Int} (hY : Y.1.cls = RX8) (hd : decode Y.2.1 pc = .ok (.invokestatic 28, 3)) (hst : st.length ≤ 7) (hf : Nat.ble 1 Y.2.2.2.2.1 = true) (hlo : Nat.ble 20 Y.2.2.2.2.2.1 = true) (hc : c0 ≤ Y.2.2.2.2.2.2.1) (hs : s0 ≤ Y.2.2.2.2.2.2.2) (w : Wa G Y Z c0 s0 n μ (pc + 3) L (.inl (if y < x then y else x) :: st)) : Wa G Y Z c0 s0 n μ pc L (.inl y :: .inl x :: st) :=
  a_min hd (by rw [hY]; exact lm_X8_28) ma_min_s ma_i ma_min_c hst (Nat.le_of_ble_eq_true hf) (Nat.le_of_ble_eq_true hlo) hc hs w
theorem lm_X8_31 : Cond.methodLink RX8 31 yX8_at ∈ gT := gT_mem (i := 549) (by decide +kernel) (by decide +kernel)
theorem k_X8_31 {G : GT} {Y : MD} {Z : ZT} {c0 s0 n pc : Nat} {μ : Mem} {L : List (Nat × AV)} {st : List AV} {a : Int} {x0 x1 : Int} {Q : Int → Nat → Mem → Prop} (hY : Y.1.cls = RX8) (hd : decode Y.2.1 pc = .ok (.invokevirtual 31, 3)) (hst : st.length ≤ 8) (hf : fitsB Y Y_X8_at = true) (hc : c0 + 0 ≤ Y.2.2.2.2.2.2.1) (hs : s0 + 0 ≤ Y.2.2.2.2.2.2.2) (ho : gx G n μ → 0 ≤ a ∧ a < n ∧ SH a = (8, 3)) (h : CI G Y_X8_at [.inr a, .inl x0, .inl x1] n μ Q) (w : ∀ (x : Int) (n' : Nat) (ν : Mem), Q x n' ν → Wa G Y Z c0 s0 n' ν (pc + 3) L (.inl x :: st)) : Wa G Y Z c0 s0 n μ pc L (.inl x1 :: .inl x0 :: .inr a :: st) :=
  c_VI (Yc := Y_X8_at) (As := [.inl x0, .inl x1]) rfl hd (by rw [hY]; exact lm_X8_31) mc_X8_at mi_X8_at ms_X8_at hst (fits_of hf hc hs) cf_8.2.1 (by decide) ho h rfl rfl w
theorem lm_X8_34 : Cond.methodLink RX8 34 yX8_put ∈ gT := gT_mem (i := 553) (by decide +kernel) (by decide +kernel)
theorem k_X8_34 {G : GT} {Y : MD} {Z : ZT} {c0 s0 n pc : Nat} {μ : Mem} {L : List (Nat × AV)} {st : List AV} {a : Int} {x0 x1 x2 : Int} {Q : Nat → Mem → Prop} (hY : Y.1.cls = RX8) (hd : decode Y.2.1 pc = .ok (.invokevirtual 34, 3)) (hst : st.length ≤ 8) (hf : fitsB Y Y_X8_put = true) (hc : c0 + 0 ≤ Y.2.2.2.2.2.2.1) (hs : s0 + 0 ≤ Y.2.2.2.2.2.2.2) (ho : gx G n μ → 0 ≤ a ∧ a < n ∧ SH a = (8, 3)) (h : CV G Y_X8_put [.inr a, .inl x0, .inl x1, .inl x2] n μ Q) (w : ∀ (n' : Nat) (ν : Mem), Q n' ν → Wa G Y Z c0 s0 n' ν (pc + 3) L st) : Wa G Y Z c0 s0 n μ pc L (.inl x2 :: .inl x1 :: .inl x0 :: .inr a :: st) :=
  c_VV (Yc := Y_X8_put) (As := [.inl x0, .inl x1, .inl x2]) rfl hd (by rw [hY]; exact lm_X8_34) mc_X8_put mi_X8_put ms_X8_put hst (fits_of hf hc hs) cf_8.2.1 (by decide) ho h rfl rfl w
theorem lm_X8_38 : Cond.methodLink RX8 38 yX8_cut ∈ gT := gT_mem (i := 691) (by decide +kernel) (by decide +kernel)
theorem k_X8_38 {G : GT} {Y : MD} {Z : ZT} {c0 s0 n pc : Nat} {μ : Mem} {L : List (Nat × AV)} {st : List AV} {a : Int} {x0 : Int} {Q : Nat → Mem → Prop} (hY : Y.1.cls = RX8) (hd : decode Y.2.1 pc = .ok (.invokevirtual 38, 3)) (hst : st.length ≤ 8) (hf : fitsB Y Y_X8_cut = true) (hc : c0 + 0 ≤ Y.2.2.2.2.2.2.1) (hs : s0 + 0 ≤ Y.2.2.2.2.2.2.2) (ho : gx G n μ → 0 ≤ a ∧ a < n ∧ SH a = (8, 3)) (h : CV G Y_X8_cut [.inr a, .inl x0] n μ Q) (w : ∀ (n' : Nat) (ν : Mem), Q n' ν → Wa G Y Z c0 s0 n' ν (pc + 3) L st) : Wa G Y Z c0 s0 n μ pc L (.inl x0 :: .inr a :: st) :=
  c_VV (Yc := Y_X8_cut) (As := [.inl x0]) rfl hd (by rw [hY]; exact lm_X8_38) mc_X8_cut mi_X8_cut ms_X8_cut hst (fits_of hf hc hs) cf_8.2.1 (by decide) ho h rfl rfl w
theorem lm_X8_42 : Cond.methodLink RX8 42 yX8_appendFrom ∈ gT := gT_mem (i := 541) (by decide +kernel) (by decide +kernel)
theorem k_X8_42 {G : GT} {Y : MD} {Z : ZT} {c0 s0 n pc : Nat} {μ : Mem} {L : List (Nat × AV)} {st : List AV} {a : Int} {x0 : Int} {Q : Nat → Mem → Prop} (hY : Y.1.cls = RX8) (hd : decode Y.2.1 pc = .ok (.invokevirtual 42, 3)) (hst : st.length ≤ 8) (hf : fitsB Y Y_X8_appendFrom = true) (hc : c0 + 0 ≤ Y.2.2.2.2.2.2.1) (hs : s0 + 0 ≤ Y.2.2.2.2.2.2.2) (ho : gx G n μ → 0 ≤ a ∧ a < n ∧ SH a = (8, 3)) (h : CV G Y_X8_appendFrom [.inr a, .inr x0] n μ Q) (w : ∀ (n' : Nat) (ν : Mem), Q n' ν → Wa G Y Z c0 s0 n' ν (pc + 3) L st) : Wa G Y Z c0 s0 n μ pc L (.inr x0 :: .inr a :: st) :=
  c_VV (Yc := Y_X8_appendFrom) (As := [.inr x0]) rfl hd (by rw [hY]; exact lm_X8_42) mc_X8_appendFrom mi_X8_appendFrom ms_X8_appendFrom hst (fits_of hf hc hs) cf_8.2.1 (by decide) ho h rfl rfl w
theorem lm_X8_46 : Cond.methodLink RX8 46 yX8_addRow ∈ gT := gT_mem (i := 545) (by decide +kernel) (by decide +kernel)
theorem k_X8_46 {G : GT} {Y : MD} {Z : ZT} {c0 s0 n pc : Nat} {μ : Mem} {L : List (Nat × AV)} {st : List AV} {a : Int} {Q : Int → Nat → Mem → Prop} (hY : Y.1.cls = RX8) (hd : decode Y.2.1 pc = .ok (.invokevirtual 46, 3)) (hst : st.length ≤ 8) (hf : fitsB Y Y_X8_addRow = true) (hc : c0 + 0 ≤ Y.2.2.2.2.2.2.1) (hs : s0 + 0 ≤ Y.2.2.2.2.2.2.2) (ho : gx G n μ → 0 ≤ a ∧ a < n ∧ SH a = (8, 3)) (h : CI G Y_X8_addRow [.inr a] n μ Q) (w : ∀ (x : Int) (n' : Nat) (ν : Mem), Q x n' ν → Wa G Y Z c0 s0 n' ν (pc + 3) L (.inl x :: st)) : Wa G Y Z c0 s0 n μ pc L (.inr a :: st) :=
  c_VI (Yc := Y_X8_addRow) (As := []) rfl hd (by rw [hY]; exact lm_X8_46) mc_X8_addRow mi_X8_addRow ms_X8_addRow hst (fits_of hf hc hs) cf_8.2.1 (by decide) ho h rfl rfl w
theorem lm_X9_3 : Cond.methodLink RX9 3 Lib.objectInit ∈ gT := gT_mem (i := 88) (by decide +kernel) (by decide +kernel)
theorem k_X9_3 {G : GT} {Y : MD} {Z : ZT} {c0 s0 n pc : Nat} {μ : Mem} {L : List (Nat × AV)} {st : List AV} {a : Int} (hY : Y.1.cls = RX9) (hd : decode Y.2.1 pc = .ok (.invokespecial 3, 3)) (ha : 0 ≤ a) (hst : st.length ≤ 8) (hf : Nat.ble 1 Y.2.2.2.2.1 = true) (hlo : Nat.ble 20 Y.2.2.2.2.2.1 = true) (w : Wa G Y Z c0 s0 n μ (pc + 3) L st) : Wa G Y Z c0 s0 n μ pc L (.inr a :: st) :=
  a_objInit hd (by rw [hY]; exact lm_X9_3) oi_i oi_c ha hst (Nat.le_of_ble_eq_true hf) (Nat.le_of_ble_eq_true hlo) w
theorem lm_L_9 : Cond.methodLink RL 9 yX10_init ∈ gT := gT_mem (i := 77) (by decide +kernel) (by decide +kernel)
theorem k_L_9 {G : GT} {Y : MD} {Z : ZT} {c0 s0 n pc : Nat} {μ : Mem} {L : List (Nat × AV)} {st : List AV} {a : Int} {Q : Nat → Mem → Prop} (hY : Y.1.cls = RL) (hd : decode Y.2.1 pc = .ok (.invokespecial 9, 3)) (hst : st.length ≤ 8) (hf : fitsB Y Y_X10_init = true) (hc : c0 + 398 ≤ Y.2.2.2.2.2.2.1) (hs : s0 + 98598 ≤ Y.2.2.2.2.2.2.2) (ha : 0 ≤ a) (h : CV G Y_X10_init [.inr a] n μ Q) (w : ∀ (n' : Nat) (ν : Mem), Q n' ν → Wa G Y Z (c0 + 398) (s0 + 98598) n' ν (pc + 3) L st) : Wa G Y Z c0 s0 n μ pc L (.inr a :: st) :=
  c_N (Yc := Y_X10_init) (As := []) rfl hd (by rw [hY]; exact lm_L_9) mc_X10_init mi_X10_init rfl rfl hst (fits_of hf hc hs) ha h rfl rfl w
theorem lm_L_12 : Cond.methodLink RL 12 yX11_init ∈ gT := gT_mem (i := 817) (by decide +kernel) (by decide +kernel)
theorem k_L_12 {G : GT} {Y : MD} {Z : ZT} {c0 s0 n pc : Nat} {μ : Mem} {L : List (Nat × AV)} {st : List AV} {a : Int} {Q : Nat → Mem → Prop} (hY : Y.1.cls = RL) (hd : decode Y.2.1 pc = .ok (.invokespecial 12, 3)) (hst : st.length ≤ 8) (hf : fitsB Y Y_X11_init = true) (hc : c0 + 15 ≤ Y.2.2.2.2.2.2.1) (hs : s0 + 3068 ≤ Y.2.2.2.2.2.2.2) (ha : 0 ≤ a) (h : CV G Y_X11_init [.inr a] n μ Q) (w : ∀ (n' : Nat) (ν : Mem), Q n' ν → Wa G Y Z (c0 + 15) (s0 + 3068) n' ν (pc + 3) L st) : Wa G Y Z c0 s0 n μ pc L (.inr a :: st) :=
  c_N (Yc := Y_X11_init) (As := []) rfl hd (by rw [hY]; exact lm_L_12) mc_X11_init mi_X11_init rfl rfl hst (fits_of hf hc hs) ha h rfl rfl w
theorem lm_L_13 : Cond.methodLink RL 13 yX10_type ∈ gT := gT_mem (i := 377) (by decide +kernel) (by decide +kernel)
theorem k_L_13 {G : GT} {Y : MD} {Z : ZT} {c0 s0 n pc : Nat} {μ : Mem} {L : List (Nat × AV)} {st : List AV} {a : Int} {x0 : Int} {Q : Int → Nat → Mem → Prop} (hY : Y.1.cls = RL) (hd : decode Y.2.1 pc = .ok (.invokevirtual 13, 3)) (hst : st.length ≤ 8) (hf : fitsB Y Y_X10_type = true) (hc : c0 + 0 ≤ Y.2.2.2.2.2.2.1) (hs : s0 + 0 ≤ Y.2.2.2.2.2.2.2) (ho : gx G n μ → 0 ≤ a ∧ a < n ∧ SH a = (10, 12)) (h : CI G Y_X10_type [.inr a, .inl x0] n μ Q) (w : ∀ (x : Int) (n' : Nat) (ν : Mem), Q x n' ν → Wa G Y Z c0 s0 n' ν (pc + 3) L (.inl x :: st)) : Wa G Y Z c0 s0 n μ pc L (.inl x0 :: .inr a :: st) :=
  c_VI (Yc := Y_X10_type) (As := [.inl x0]) rfl hd (by rw [hY]; exact lm_L_13) mc_X10_type mi_X10_type ms_X10_type hst (fits_of hf hc hs) cf_10.2.1 (by decide) ho h rfl rfl w
theorem lm_L_17 : Cond.methodLink RL 17 yX11_type ∈ gT := gT_mem (i := 915) (by decide +kernel) (by decide +kernel)
theorem k_L_17 {G : GT} {Y : MD} {Z : ZT} {c0 s0 n pc : Nat} {μ : Mem} {L : List (Nat × AV)} {st : List AV} {a : Int} {x0 : Int} {Q : Int → Nat → Mem → Prop} (hY : Y.1.cls = RL) (hd : decode Y.2.1 pc = .ok (.invokevirtual 17, 3)) (hst : st.length ≤ 8) (hf : fitsB Y Y_X11_type = true) (hc : c0 + 0 ≤ Y.2.2.2.2.2.2.1) (hs : s0 + 0 ≤ Y.2.2.2.2.2.2.2) (ho : gx G n μ → 0 ≤ a ∧ a < n ∧ SH a = (11, 28)) (h : CI G Y_X11_type [.inr a, .inl x0] n μ Q) (w : ∀ (x : Int) (n' : Nat) (ν : Mem), Q x n' ν → Wa G Y Z c0 s0 n' ν (pc + 3) L (.inl x :: st)) : Wa G Y Z c0 s0 n μ pc L (.inl x0 :: .inr a :: st) :=
  c_VI (Yc := Y_X11_type) (As := [.inl x0]) rfl hd (by rw [hY]; exact lm_L_17) mc_X11_type mi_X11_type ms_X11_type hst (fits_of hf hc hs) cf_11.2.1 (by decide) ho h rfl rfl w
theorem lm_L_18 : Cond.methodLink RL 18 yX10_clear ∈ gT := gT_mem (i := 392) (by decide +kernel) (by decide +kernel)
theorem k_L_18 {G : GT} {Y : MD} {Z : ZT} {c0 s0 n pc : Nat} {μ : Mem} {L : List (Nat × AV)} {st : List AV} {a : Int} {Q : Int → Nat → Mem → Prop} (hY : Y.1.cls = RL) (hd : decode Y.2.1 pc = .ok (.invokevirtual 18, 3)) (hst : st.length ≤ 8) (hf : fitsB Y Y_X10_clear = true) (hc : c0 + 0 ≤ Y.2.2.2.2.2.2.1) (hs : s0 + 0 ≤ Y.2.2.2.2.2.2.2) (ho : gx G n μ → 0 ≤ a ∧ a < n ∧ SH a = (10, 12)) (h : CI G Y_X10_clear [.inr a] n μ Q) (w : ∀ (x : Int) (n' : Nat) (ν : Mem), Q x n' ν → Wa G Y Z c0 s0 n' ν (pc + 3) L (.inl x :: st)) : Wa G Y Z c0 s0 n μ pc L (.inr a :: st) :=
  c_VI (Yc := Y_X10_clear) (As := []) rfl hd (by rw [hY]; exact lm_L_18) mc_X10_clear mi_X10_clear ms_X10_clear hst (fits_of hf hc hs) cf_10.2.1 (by decide) ho h rfl rfl w
theorem lm_L_22 : Cond.methodLink RL 22 yX11_clear ∈ gT := gT_mem (i := 922) (by decide +kernel) (by decide +kernel)
theorem k_L_22 {G : GT} {Y : MD} {Z : ZT} {c0 s0 n pc : Nat} {μ : Mem} {L : List (Nat × AV)} {st : List AV} {a : Int} {Q : Int → Nat → Mem → Prop} (hY : Y.1.cls = RL) (hd : decode Y.2.1 pc = .ok (.invokevirtual 22, 3)) (hst : st.length ≤ 8) (hf : fitsB Y Y_X11_clear = true) (hc : c0 + 0 ≤ Y.2.2.2.2.2.2.1) (hs : s0 + 0 ≤ Y.2.2.2.2.2.2.2) (ho : gx G n μ → 0 ≤ a ∧ a < n ∧ SH a = (11, 28)) (h : CI G Y_X11_clear [.inr a] n μ Q) (w : ∀ (x : Int) (n' : Nat) (ν : Mem), Q x n' ν → Wa G Y Z c0 s0 n' ν (pc + 3) L (.inl x :: st)) : Wa G Y Z c0 s0 n μ pc L (.inr a :: st) :=
  c_VI (Yc := Y_X11_clear) (As := []) rfl hd (by rw [hY]; exact lm_L_22) mc_X11_clear mi_X11_clear ms_X11_clear hst (fits_of hf hc hs) cf_11.2.1 (by decide) ho h rfl rfl w
theorem lm_L_23 : Cond.methodLink RL 23 yX10_plan ∈ gT := gT_mem (i := 400) (by decide +kernel) (by decide +kernel)
theorem k_L_23 {G : GT} {Y : MD} {Z : ZT} {c0 s0 n pc : Nat} {μ : Mem} {L : List (Nat × AV)} {st : List AV} {a : Int} {Q : Int → Nat → Mem → Prop} (hY : Y.1.cls = RL) (hd : decode Y.2.1 pc = .ok (.invokevirtual 23, 3)) (hst : st.length ≤ 8) (hf : fitsB Y Y_X10_plan = true) (hc : c0 + 150 ≤ Y.2.2.2.2.2.2.1) (hs : s0 + 900 ≤ Y.2.2.2.2.2.2.2) (ho : gx G n μ → 0 ≤ a ∧ a < n ∧ SH a = (10, 12)) (h : CI G Y_X10_plan [.inr a] n μ Q) (w : ∀ (x : Int) (n' : Nat) (ν : Mem), Q x n' ν → Wa G Y Z (c0 + 150) (s0 + 900) n' ν (pc + 3) L (.inl x :: st)) : Wa G Y Z c0 s0 n μ pc L (.inr a :: st) :=
  c_VI (Yc := Y_X10_plan) (As := []) rfl hd (by rw [hY]; exact lm_L_23) mc_X10_plan mi_X10_plan ms_X10_plan hst (fits_of hf hc hs) cf_10.2.1 (by decide) ho h rfl rfl w
theorem lm_L_26 : Cond.methodLink RL 26 yX11_plan ∈ gT := gT_mem (i := 926) (by decide +kernel) (by decide +kernel)
theorem k_L_26 {G : GT} {Y : MD} {Z : ZT} {c0 s0 n pc : Nat} {μ : Mem} {L : List (Nat × AV)} {st : List AV} {a : Int} {Q : Int → Nat → Mem → Prop} (hY : Y.1.cls = RL) (hd : decode Y.2.1 pc = .ok (.invokevirtual 26, 3)) (hst : st.length ≤ 8) (hf : fitsB Y Y_X11_plan = true) (hc : c0 + 0 ≤ Y.2.2.2.2.2.2.1) (hs : s0 + 0 ≤ Y.2.2.2.2.2.2.2) (ho : gx G n μ → 0 ≤ a ∧ a < n ∧ SH a = (11, 28)) (h : CI G Y_X11_plan [.inr a] n μ Q) (w : ∀ (x : Int) (n' : Nat) (ν : Mem), Q x n' ν → Wa G Y Z c0 s0 n' ν (pc + 3) L (.inl x :: st)) : Wa G Y Z c0 s0 n μ pc L (.inr a :: st) :=
  c_VI (Yc := Y_X11_plan) (As := []) rfl hd (by rw [hY]; exact lm_L_26) mc_X11_plan mi_X11_plan ms_X11_plan hst (fits_of hf hc hs) cf_11.2.1 (by decide) ho h rfl rfl w
theorem lm_L_27 : Cond.methodLink RL 27 yX10_contact ∈ gT := gT_mem (i := 483) (by decide +kernel) (by decide +kernel)
theorem k_L_27 {G : GT} {Y : MD} {Z : ZT} {c0 s0 n pc : Nat} {μ : Mem} {L : List (Nat × AV)} {st : List AV} {a : Int} {x0 x1 : Int} {Q : Int → Nat → Mem → Prop} (hY : Y.1.cls = RL) (hd : decode Y.2.1 pc = .ok (.invokevirtual 27, 3)) (hst : st.length ≤ 8) (hf : fitsB Y Y_X10_contact = true) (hc : c0 + 0 ≤ Y.2.2.2.2.2.2.1) (hs : s0 + 0 ≤ Y.2.2.2.2.2.2.2) (ho : gx G n μ → 0 ≤ a ∧ a < n ∧ SH a = (10, 12)) (h : CI G Y_X10_contact [.inr a, .inl x0, .inl x1] n μ Q) (w : ∀ (x : Int) (n' : Nat) (ν : Mem), Q x n' ν → Wa G Y Z c0 s0 n' ν (pc + 3) L (.inl x :: st)) : Wa G Y Z c0 s0 n μ pc L (.inl x1 :: .inl x0 :: .inr a :: st) :=
  c_VI (Yc := Y_X10_contact) (As := [.inl x0, .inl x1]) rfl hd (by rw [hY]; exact lm_L_27) mc_X10_contact mi_X10_contact ms_X10_contact hst (fits_of hf hc hs) cf_10.2.1 (by decide) ho h rfl rfl w
theorem lm_L_31 : Cond.methodLink RL 31 yX11_contact ∈ gT := gT_mem (i := 950) (by decide +kernel) (by decide +kernel)
theorem k_L_31 {G : GT} {Y : MD} {Z : ZT} {c0 s0 n pc : Nat} {μ : Mem} {L : List (Nat × AV)} {st : List AV} {a : Int} {x0 x1 : Int} {Q : Int → Nat → Mem → Prop} (hY : Y.1.cls = RL) (hd : decode Y.2.1 pc = .ok (.invokevirtual 31, 3)) (hst : st.length ≤ 8) (hf : fitsB Y Y_X11_contact = true) (hc : c0 + 0 ≤ Y.2.2.2.2.2.2.1) (hs : s0 + 0 ≤ Y.2.2.2.2.2.2.2) (ho : gx G n μ → 0 ≤ a ∧ a < n ∧ SH a = (11, 28)) (h : CI G Y_X11_contact [.inr a, .inl x0, .inl x1] n μ Q) (w : ∀ (x : Int) (n' : Nat) (ν : Mem), Q x n' ν → Wa G Y Z c0 s0 n' ν (pc + 3) L (.inl x :: st)) : Wa G Y Z c0 s0 n μ pc L (.inl x1 :: .inl x0 :: .inr a :: st) :=
  c_VI (Yc := Y_X11_contact) (As := [.inl x0, .inl x1]) rfl hd (by rw [hY]; exact lm_L_31) mc_X11_contact mi_X11_contact ms_X11_contact hst (fits_of hf hc hs) cf_11.2.1 (by decide) ho h rfl rfl w
theorem lm_L_32 : Cond.methodLink RL 32 yX10_sends ∈ gT := gT_mem (i := 500) (by decide +kernel) (by decide +kernel)
theorem k_L_32 {G : GT} {Y : MD} {Z : ZT} {c0 s0 n pc : Nat} {μ : Mem} {L : List (Nat × AV)} {st : List AV} {a : Int} {x0 x1 x2 x3 x4 : Int} {Q : Int → Nat → Mem → Prop} (hY : Y.1.cls = RL) (hd : decode Y.2.1 pc = .ok (.invokevirtual 32, 3)) (hst : st.length ≤ 8) (hf : fitsB Y Y_X10_sends = true) (hc : c0 + 0 ≤ Y.2.2.2.2.2.2.1) (hs : s0 + 0 ≤ Y.2.2.2.2.2.2.2) (ho : gx G n μ → 0 ≤ a ∧ a < n ∧ SH a = (10, 12)) (h : CI G Y_X10_sends [.inr a, .inl x0, .inl x1, .inl x2, .inl x3, .inl x4] n μ Q) (w : ∀ (x : Int) (n' : Nat) (ν : Mem), Q x n' ν → Wa G Y Z c0 s0 n' ν (pc + 3) L (.inl x :: st)) : Wa G Y Z c0 s0 n μ pc L (.inl x4 :: .inl x3 :: .inl x2 :: .inl x1 :: .inl x0 :: .inr a :: st) :=
  c_VI (Yc := Y_X10_sends) (As := [.inl x0, .inl x1, .inl x2, .inl x3, .inl x4]) rfl hd (by rw [hY]; exact lm_L_32) mc_X10_sends mi_X10_sends ms_X10_sends hst (fits_of hf hc hs) cf_10.2.1 (by decide) ho h rfl rfl w
theorem lm_L_36 : Cond.methodLink RL 36 yX11_sends ∈ gT := gT_mem (i := 962) (by decide +kernel) (by decide +kernel)
theorem k_L_36 {G : GT} {Y : MD} {Z : ZT} {c0 s0 n pc : Nat} {μ : Mem} {L : List (Nat × AV)} {st : List AV} {a : Int} {x0 x1 x2 x3 x4 : Int} {Q : Int → Nat → Mem → Prop} (hY : Y.1.cls = RL) (hd : decode Y.2.1 pc = .ok (.invokevirtual 36, 3)) (hst : st.length ≤ 8) (hf : fitsB Y Y_X11_sends = true) (hc : c0 + 0 ≤ Y.2.2.2.2.2.2.1) (hs : s0 + 0 ≤ Y.2.2.2.2.2.2.2) (ho : gx G n μ → 0 ≤ a ∧ a < n ∧ SH a = (11, 28)) (h : CI G Y_X11_sends [.inr a, .inl x0, .inl x1, .inl x2, .inl x3, .inl x4] n μ Q) (w : ∀ (x : Int) (n' : Nat) (ν : Mem), Q x n' ν → Wa G Y Z c0 s0 n' ν (pc + 3) L (.inl x :: st)) : Wa G Y Z c0 s0 n μ pc L (.inl x4 :: .inl x3 :: .inl x2 :: .inl x1 :: .inl x0 :: .inr a :: st) :=
  c_VI (Yc := Y_X11_sends) (As := [.inl x0, .inl x1, .inl x2, .inl x3, .inl x4]) rfl hd (by rw [hY]; exact lm_L_36) mc_X11_sends mi_X11_sends ms_X11_sends hst (fits_of hf hc hs) cf_11.2.1 (by decide) ho h rfl rfl w
theorem lm_L_37 : Cond.methodLink RL 37 yX10_drops ∈ gT := gT_mem (i := 662) (by decide +kernel) (by decide +kernel)
theorem k_L_37 {G : GT} {Y : MD} {Z : ZT} {c0 s0 n pc : Nat} {μ : Mem} {L : List (Nat × AV)} {st : List AV} {a : Int} {x0 : Int} {Q : Int → Nat → Mem → Prop} (hY : Y.1.cls = RL) (hd : decode Y.2.1 pc = .ok (.invokevirtual 37, 3)) (hst : st.length ≤ 8) (hf : fitsB Y Y_X10_drops = true) (hc : c0 + 0 ≤ Y.2.2.2.2.2.2.1) (hs : s0 + 0 ≤ Y.2.2.2.2.2.2.2) (ho : gx G n μ → 0 ≤ a ∧ a < n ∧ SH a = (10, 12)) (h : CI G Y_X10_drops [.inr a, .inl x0] n μ Q) (w : ∀ (x : Int) (n' : Nat) (ν : Mem), Q x n' ν → Wa G Y Z c0 s0 n' ν (pc + 3) L (.inl x :: st)) : Wa G Y Z c0 s0 n μ pc L (.inl x0 :: .inr a :: st) :=
  c_VI (Yc := Y_X10_drops) (As := [.inl x0]) rfl hd (by rw [hY]; exact lm_L_37) mc_X10_drops mi_X10_drops ms_X10_drops hst (fits_of hf hc hs) cf_10.2.1 (by decide) ho h rfl rfl w
theorem lm_L_40 : Cond.methodLink RL 40 yX11_drops ∈ gT := gT_mem (i := 1064) (by decide +kernel) (by decide +kernel)
theorem k_L_40 {G : GT} {Y : MD} {Z : ZT} {c0 s0 n pc : Nat} {μ : Mem} {L : List (Nat × AV)} {st : List AV} {a : Int} {x0 : Int} {Q : Int → Nat → Mem → Prop} (hY : Y.1.cls = RL) (hd : decode Y.2.1 pc = .ok (.invokevirtual 40, 3)) (hst : st.length ≤ 8) (hf : fitsB Y Y_X11_drops = true) (hc : c0 + 0 ≤ Y.2.2.2.2.2.2.1) (hs : s0 + 0 ≤ Y.2.2.2.2.2.2.2) (ho : gx G n μ → 0 ≤ a ∧ a < n ∧ SH a = (11, 28)) (h : CI G Y_X11_drops [.inr a, .inl x0] n μ Q) (w : ∀ (x : Int) (n' : Nat) (ν : Mem), Q x n' ν → Wa G Y Z c0 s0 n' ν (pc + 3) L (.inl x :: st)) : Wa G Y Z c0 s0 n μ pc L (.inl x0 :: .inr a :: st) :=
  c_VI (Yc := Y_X11_drops) (As := [.inl x0]) rfl hd (by rw [hY]; exact lm_L_40) mc_X11_drops mi_X11_drops ms_X11_drops hst (fits_of hf hc hs) cf_11.2.1 (by decide) ho h rfl rfl w
theorem lm_L_41 : Cond.methodLink RL 41 yX10_passes ∈ gT := gT_mem (i := 675) (by decide +kernel) (by decide +kernel)
theorem k_L_41 {G : GT} {Y : MD} {Z : ZT} {c0 s0 n pc : Nat} {μ : Mem} {L : List (Nat × AV)} {st : List AV} {a : Int} {x0 : Int} {Q : Int → Nat → Mem → Prop} (hY : Y.1.cls = RL) (hd : decode Y.2.1 pc = .ok (.invokevirtual 41, 3)) (hst : st.length ≤ 8) (hf : fitsB Y Y_X10_passes = true) (hc : c0 + 0 ≤ Y.2.2.2.2.2.2.1) (hs : s0 + 0 ≤ Y.2.2.2.2.2.2.2) (ho : gx G n μ → 0 ≤ a ∧ a < n ∧ SH a = (10, 12)) (h : CI G Y_X10_passes [.inr a, .inl x0] n μ Q) (w : ∀ (x : Int) (n' : Nat) (ν : Mem), Q x n' ν → Wa G Y Z c0 s0 n' ν (pc + 3) L (.inl x :: st)) : Wa G Y Z c0 s0 n μ pc L (.inl x0 :: .inr a :: st) :=
  c_VI (Yc := Y_X10_passes) (As := [.inl x0]) rfl hd (by rw [hY]; exact lm_L_41) mc_X10_passes mi_X10_passes ms_X10_passes hst (fits_of hf hc hs) cf_10.2.1 (by decide) ho h rfl rfl w
theorem lm_L_44 : Cond.methodLink RL 44 yX11_passes ∈ gT := gT_mem (i := 1072) (by decide +kernel) (by decide +kernel)
theorem k_L_44 {G : GT} {Y : MD} {Z : ZT} {c0 s0 n pc : Nat} {μ : Mem} {L : List (Nat × AV)} {st : List AV} {a : Int} {x0 : Int} {Q : Int → Nat → Mem → Prop} (hY : Y.1.cls = RL) (hd : decode Y.2.1 pc = .ok (.invokevirtual 44, 3)) (hst : st.length ≤ 8) (hf : fitsB Y Y_X11_passes = true) (hc : c0 + 0 ≤ Y.2.2.2.2.2.2.1) (hs : s0 + 0 ≤ Y.2.2.2.2.2.2.2) (ho : gx G n μ → 0 ≤ a ∧ a < n ∧ SH a = (11, 28)) (h : CI G Y_X11_passes [.inr a, .inl x0] n μ Q) (w : ∀ (x : Int) (n' : Nat) (ν : Mem), Q x n' ν → Wa G Y Z c0 s0 n' ν (pc + 3) L (.inl x :: st)) : Wa G Y Z c0 s0 n μ pc L (.inl x0 :: .inr a :: st) :=
  c_VI (Yc := Y_X11_passes) (As := [.inl x0]) rfl hd (by rw [hY]; exact lm_L_44) mc_X11_passes mi_X11_passes ms_X11_passes hst (fits_of hf hc hs) cf_11.2.1 (by decide) ho h rfl rfl w
theorem lm_L_45 : Cond.methodLink RL 45 yX10_misses ∈ gT := gT_mem (i := 692) (by decide +kernel) (by decide +kernel)
theorem k_L_45 {G : GT} {Y : MD} {Z : ZT} {c0 s0 n pc : Nat} {μ : Mem} {L : List (Nat × AV)} {st : List AV} {a : Int} {x0 : Int} {Q : Int → Nat → Mem → Prop} (hY : Y.1.cls = RL) (hd : decode Y.2.1 pc = .ok (.invokevirtual 45, 3)) (hst : st.length ≤ 8) (hf : fitsB Y Y_X10_misses = true) (hc : c0 + 0 ≤ Y.2.2.2.2.2.2.1) (hs : s0 + 0 ≤ Y.2.2.2.2.2.2.2) (ho : gx G n μ → 0 ≤ a ∧ a < n ∧ SH a = (10, 12)) (h : CI G Y_X10_misses [.inr a, .inl x0] n μ Q) (w : ∀ (x : Int) (n' : Nat) (ν : Mem), Q x n' ν → Wa G Y Z c0 s0 n' ν (pc + 3) L (.inl x :: st)) : Wa G Y Z c0 s0 n μ pc L (.inl x0 :: .inr a :: st) :=
  c_VI (Yc := Y_X10_misses) (As := [.inl x0]) rfl hd (by rw [hY]; exact lm_L_45) mc_X10_misses mi_X10_misses ms_X10_misses hst (fits_of hf hc hs) cf_10.2.1 (by decide) ho h rfl rfl w
theorem lm_L_48 : Cond.methodLink RL 48 yX11_misses ∈ gT := gT_mem (i := 1080) (by decide +kernel) (by decide +kernel)
theorem k_L_48 {G : GT} {Y : MD} {Z : ZT} {c0 s0 n pc : Nat} {μ : Mem} {L : List (Nat × AV)} {st : List AV} {a : Int} {x0 : Int} {Q : Int → Nat → Mem → Prop} (hY : Y.1.cls = RL) (hd : decode Y.2.1 pc = .ok (.invokevirtual 48, 3)) (hst : st.length ≤ 8) (hf : fitsB Y Y_X11_misses = true) (hc : c0 + 0 ≤ Y.2.2.2.2.2.2.1) (hs : s0 + 0 ≤ Y.2.2.2.2.2.2.2) (ho : gx G n μ → 0 ≤ a ∧ a < n ∧ SH a = (11, 28)) (h : CI G Y_X11_misses [.inr a, .inl x0] n μ Q) (w : ∀ (x : Int) (n' : Nat) (ν : Mem), Q x n' ν → Wa G Y Z c0 s0 n' ν (pc + 3) L (.inl x :: st)) : Wa G Y Z c0 s0 n μ pc L (.inl x0 :: .inr a :: st) :=
  c_VI (Yc := Y_X11_misses) (As := [.inl x0]) rfl hd (by rw [hY]; exact lm_L_48) mc_X11_misses mi_X11_misses ms_X11_misses hst (fits_of hf hc hs) cf_11.2.1 (by decide) ho h rfl rfl w
theorem lm_L_49 : Cond.methodLink RL 49 yX10_finds ∈ gT := gT_mem (i := 719) (by decide +kernel) (by decide +kernel)
theorem k_L_49 {G : GT} {Y : MD} {Z : ZT} {c0 s0 n pc : Nat} {μ : Mem} {L : List (Nat × AV)} {st : List AV} {a : Int} {x0 : Int} {Q : Int → Nat → Mem → Prop} (hY : Y.1.cls = RL) (hd : decode Y.2.1 pc = .ok (.invokevirtual 49, 3)) (hst : st.length ≤ 8) (hf : fitsB Y Y_X10_finds = true) (hc : c0 + 0 ≤ Y.2.2.2.2.2.2.1) (hs : s0 + 0 ≤ Y.2.2.2.2.2.2.2) (ho : gx G n μ → 0 ≤ a ∧ a < n ∧ SH a = (10, 12)) (h : CI G Y_X10_finds [.inr a, .inl x0] n μ Q) (w : ∀ (x : Int) (n' : Nat) (ν : Mem), Q x n' ν → Wa G Y Z c0 s0 n' ν (pc + 3) L (.inl x :: st)) : Wa G Y Z c0 s0 n μ pc L (.inl x0 :: .inr a :: st) :=
  c_VI (Yc := Y_X10_finds) (As := [.inl x0]) rfl hd (by rw [hY]; exact lm_L_49) mc_X10_finds mi_X10_finds ms_X10_finds hst (fits_of hf hc hs) cf_10.2.1 (by decide) ho h rfl rfl w
theorem lm_L_52 : Cond.methodLink RL 52 yX11_finds ∈ gT := gT_mem (i := 1096) (by decide +kernel) (by decide +kernel)
theorem k_L_52 {G : GT} {Y : MD} {Z : ZT} {c0 s0 n pc : Nat} {μ : Mem} {L : List (Nat × AV)} {st : List AV} {a : Int} {x0 : Int} {Q : Int → Nat → Mem → Prop} (hY : Y.1.cls = RL) (hd : decode Y.2.1 pc = .ok (.invokevirtual 52, 3)) (hst : st.length ≤ 8) (hf : fitsB Y Y_X11_finds = true) (hc : c0 + 0 ≤ Y.2.2.2.2.2.2.1) (hs : s0 + 0 ≤ Y.2.2.2.2.2.2.2) (ho : gx G n μ → 0 ≤ a ∧ a < n ∧ SH a = (11, 28)) (h : CI G Y_X11_finds [.inr a, .inl x0] n μ Q) (w : ∀ (x : Int) (n' : Nat) (ν : Mem), Q x n' ν → Wa G Y Z c0 s0 n' ν (pc + 3) L (.inl x :: st)) : Wa G Y Z c0 s0 n μ pc L (.inl x0 :: .inr a :: st) :=
  c_VI (Yc := Y_X11_finds) (As := [.inl x0]) rfl hd (by rw [hY]; exact lm_L_52) mc_X11_finds mi_X11_finds ms_X11_finds hst (fits_of hf hc hs) cf_11.2.1 (by decide) ho h rfl rfl w
theorem lm_L_53 : Cond.methodLink RL 53 yX10_undo ∈ gT := gT_mem (i := 727) (by decide +kernel) (by decide +kernel)
theorem k_L_53 {G : GT} {Y : MD} {Z : ZT} {c0 s0 n pc : Nat} {μ : Mem} {L : List (Nat × AV)} {st : List AV} {a : Int} {Q : Int → Nat → Mem → Prop} (hY : Y.1.cls = RL) (hd : decode Y.2.1 pc = .ok (.invokevirtual 53, 3)) (hst : st.length ≤ 8) (hf : fitsB Y Y_X10_undo = true) (hc : c0 + 0 ≤ Y.2.2.2.2.2.2.1) (hs : s0 + 0 ≤ Y.2.2.2.2.2.2.2) (ho : gx G n μ → 0 ≤ a ∧ a < n ∧ SH a = (10, 12)) (h : CI G Y_X10_undo [.inr a] n μ Q) (w : ∀ (x : Int) (n' : Nat) (ν : Mem), Q x n' ν → Wa G Y Z c0 s0 n' ν (pc + 3) L (.inl x :: st)) : Wa G Y Z c0 s0 n μ pc L (.inr a :: st) :=
  c_VI (Yc := Y_X10_undo) (As := []) rfl hd (by rw [hY]; exact lm_L_53) mc_X10_undo mi_X10_undo ms_X10_undo hst (fits_of hf hc hs) cf_10.2.1 (by decide) ho h rfl rfl w
theorem lm_L_56 : Cond.methodLink RL 56 yX11_undo ∈ gT := gT_mem (i := 1100) (by decide +kernel) (by decide +kernel)
theorem k_L_56 {G : GT} {Y : MD} {Z : ZT} {c0 s0 n pc : Nat} {μ : Mem} {L : List (Nat × AV)} {st : List AV} {a : Int} {Q : Int → Nat → Mem → Prop} (hY : Y.1.cls = RL) (hd : decode Y.2.1 pc = .ok (.invokevirtual 56, 3)) (hst : st.length ≤ 8) (hf : fitsB Y Y_X11_undo = true) (hc : c0 + 0 ≤ Y.2.2.2.2.2.2.1) (hs : s0 + 0 ≤ Y.2.2.2.2.2.2.2) (ho : gx G n μ → 0 ≤ a ∧ a < n ∧ SH a = (11, 28)) (h : CI G Y_X11_undo [.inr a] n μ Q) (w : ∀ (x : Int) (n' : Nat) (ν : Mem), Q x n' ν → Wa G Y Z c0 s0 n' ν (pc + 3) L (.inl x :: st)) : Wa G Y Z c0 s0 n μ pc L (.inr a :: st) :=
  c_VI (Yc := Y_X11_undo) (As := []) rfl hd (by rw [hY]; exact lm_L_56) mc_X11_undo mi_X11_undo ms_X11_undo hst (fits_of hf hc hs) cf_11.2.1 (by decide) ho h rfl rfl w
theorem lm_L_57 : Cond.methodLink RL 57 yX10_bundle ∈ gT := gT_mem (i := 735) (by decide +kernel) (by decide +kernel)
theorem k_L_57 {G : GT} {Y : MD} {Z : ZT} {c0 s0 n pc : Nat} {μ : Mem} {L : List (Nat × AV)} {st : List AV} {a : Int} {x0 x1 : Int} {Q : Int → Nat → Mem → Prop} (hY : Y.1.cls = RL) (hd : decode Y.2.1 pc = .ok (.invokevirtual 57, 3)) (hst : st.length ≤ 8) (hf : fitsB Y Y_X10_bundle = true) (hc : c0 + 0 ≤ Y.2.2.2.2.2.2.1) (hs : s0 + 0 ≤ Y.2.2.2.2.2.2.2) (ho : gx G n μ → 0 ≤ a ∧ a < n ∧ SH a = (10, 12)) (h : CI G Y_X10_bundle [.inr a, .inl x0, .inl x1] n μ Q) (w : ∀ (x : Int) (n' : Nat) (ν : Mem), Q x n' ν → Wa G Y Z c0 s0 n' ν (pc + 3) L (.inl x :: st)) : Wa G Y Z c0 s0 n μ pc L (.inl x1 :: .inl x0 :: .inr a :: st) :=
  c_VI (Yc := Y_X10_bundle) (As := [.inl x0, .inl x1]) rfl hd (by rw [hY]; exact lm_L_57) mc_X10_bundle mi_X10_bundle ms_X10_bundle hst (fits_of hf hc hs) cf_10.2.1 (by decide) ho h rfl rfl w
theorem lm_L_60 : Cond.methodLink RL 60 yX11_bundle ∈ gT := gT_mem (i := 1104) (by decide +kernel) (by decide +kernel)
theorem k_L_60 {G : GT} {Y : MD} {Z : ZT} {c0 s0 n pc : Nat} {μ : Mem} {L : List (Nat × AV)} {st : List AV} {a : Int} {x0 x1 : Int} {Q : Int → Nat → Mem → Prop} (hY : Y.1.cls = RL) (hd : decode Y.2.1 pc = .ok (.invokevirtual 60, 3)) (hst : st.length ≤ 8) (hf : fitsB Y Y_X11_bundle = true) (hc : c0 + 0 ≤ Y.2.2.2.2.2.2.1) (hs : s0 + 0 ≤ Y.2.2.2.2.2.2.2) (ho : gx G n μ → 0 ≤ a ∧ a < n ∧ SH a = (11, 28)) (h : CI G Y_X11_bundle [.inr a, .inl x0, .inl x1] n μ Q) (w : ∀ (x : Int) (n' : Nat) (ν : Mem), Q x n' ν → Wa G Y Z c0 s0 n' ν (pc + 3) L (.inl x :: st)) : Wa G Y Z c0 s0 n μ pc L (.inl x1 :: .inl x0 :: .inr a :: st) :=
  c_VI (Yc := Y_X11_bundle) (As := [.inl x0, .inl x1]) rfl hd (by rw [hY]; exact lm_L_60) mc_X11_bundle mi_X11_bundle ms_X11_bundle hst (fits_of hf hc hs) cf_11.2.1 (by decide) ho h rfl rfl w
theorem lm_L_61 : Cond.methodLink RL 61 yX10_hop ∈ gT := gT_mem (i := 745) (by decide +kernel) (by decide +kernel)
theorem k_L_61 {G : GT} {Y : MD} {Z : ZT} {c0 s0 n pc : Nat} {μ : Mem} {L : List (Nat × AV)} {st : List AV} {a : Int} {x0 x1 x2 : Int} {Q : Int → Nat → Mem → Prop} (hY : Y.1.cls = RL) (hd : decode Y.2.1 pc = .ok (.invokevirtual 61, 3)) (hst : st.length ≤ 8) (hf : fitsB Y Y_X10_hop = true) (hc : c0 + 0 ≤ Y.2.2.2.2.2.2.1) (hs : s0 + 0 ≤ Y.2.2.2.2.2.2.2) (ho : gx G n μ → 0 ≤ a ∧ a < n ∧ SH a = (10, 12)) (h : CI G Y_X10_hop [.inr a, .inl x0, .inl x1, .inl x2] n μ Q) (w : ∀ (x : Int) (n' : Nat) (ν : Mem), Q x n' ν → Wa G Y Z c0 s0 n' ν (pc + 3) L (.inl x :: st)) : Wa G Y Z c0 s0 n μ pc L (.inl x2 :: .inl x1 :: .inl x0 :: .inr a :: st) :=
  c_VI (Yc := Y_X10_hop) (As := [.inl x0, .inl x1, .inl x2]) rfl hd (by rw [hY]; exact lm_L_61) mc_X10_hop mi_X10_hop ms_X10_hop hst (fits_of hf hc hs) cf_10.2.1 (by decide) ho h rfl rfl w
theorem lm_L_65 : Cond.methodLink RL 65 yX11_hop ∈ gT := gT_mem (i := 1108) (by decide +kernel) (by decide +kernel)
theorem k_L_65 {G : GT} {Y : MD} {Z : ZT} {c0 s0 n pc : Nat} {μ : Mem} {L : List (Nat × AV)} {st : List AV} {a : Int} {x0 x1 x2 : Int} {Q : Int → Nat → Mem → Prop} (hY : Y.1.cls = RL) (hd : decode Y.2.1 pc = .ok (.invokevirtual 65, 3)) (hst : st.length ≤ 8) (hf : fitsB Y Y_X11_hop = true) (hc : c0 + 0 ≤ Y.2.2.2.2.2.2.1) (hs : s0 + 0 ≤ Y.2.2.2.2.2.2.2) (ho : gx G n μ → 0 ≤ a ∧ a < n ∧ SH a = (11, 28)) (h : CI G Y_X11_hop [.inr a, .inl x0, .inl x1, .inl x2] n μ Q) (w : ∀ (x : Int) (n' : Nat) (ν : Mem), Q x n' ν → Wa G Y Z c0 s0 n' ν (pc + 3) L (.inl x :: st)) : Wa G Y Z c0 s0 n μ pc L (.inl x2 :: .inl x1 :: .inl x0 :: .inr a :: st) :=
  c_VI (Yc := Y_X11_hop) (As := [.inl x0, .inl x1, .inl x2]) rfl hd (by rw [hY]; exact lm_L_65) mc_X11_hop mi_X11_hop ms_X11_hop hst (fits_of hf hc hs) cf_11.2.1 (by decide) ho h rfl rfl w
theorem lm_L_66 : Cond.methodLink RL 66 yX10_tick ∈ gT := gT_mem (i := 750) (by decide +kernel) (by decide +kernel)
theorem k_L_66 {G : GT} {Y : MD} {Z : ZT} {c0 s0 n pc : Nat} {μ : Mem} {L : List (Nat × AV)} {st : List AV} {a : Int} {x0 x1 : Int} {Q : Int → Nat → Mem → Prop} (hY : Y.1.cls = RL) (hd : decode Y.2.1 pc = .ok (.invokevirtual 66, 3)) (hst : st.length ≤ 8) (hf : fitsB Y Y_X10_tick = true) (hc : c0 + 0 ≤ Y.2.2.2.2.2.2.1) (hs : s0 + 0 ≤ Y.2.2.2.2.2.2.2) (ho : gx G n μ → 0 ≤ a ∧ a < n ∧ SH a = (10, 12)) (h : CI G Y_X10_tick [.inr a, .inl x0, .inl x1] n μ Q) (w : ∀ (x : Int) (n' : Nat) (ν : Mem), Q x n' ν → Wa G Y Z c0 s0 n' ν (pc + 3) L (.inl x :: st)) : Wa G Y Z c0 s0 n μ pc L (.inl x1 :: .inl x0 :: .inr a :: st) :=
  c_VI (Yc := Y_X10_tick) (As := [.inl x0, .inl x1]) rfl hd (by rw [hY]; exact lm_L_66) mc_X10_tick mi_X10_tick ms_X10_tick hst (fits_of hf hc hs) cf_10.2.1 (by decide) ho h rfl rfl w
theorem lm_L_69 : Cond.methodLink RL 69 yX11_tick ∈ gT := gT_mem (i := 1112) (by decide +kernel) (by decide +kernel)
theorem k_L_69 {G : GT} {Y : MD} {Z : ZT} {c0 s0 n pc : Nat} {μ : Mem} {L : List (Nat × AV)} {st : List AV} {a : Int} {x0 x1 : Int} {Q : Int → Nat → Mem → Prop} (hY : Y.1.cls = RL) (hd : decode Y.2.1 pc = .ok (.invokevirtual 69, 3)) (hst : st.length ≤ 8) (hf : fitsB Y Y_X11_tick = true) (hc : c0 + 0 ≤ Y.2.2.2.2.2.2.1) (hs : s0 + 0 ≤ Y.2.2.2.2.2.2.2) (ho : gx G n μ → 0 ≤ a ∧ a < n ∧ SH a = (11, 28)) (h : CI G Y_X11_tick [.inr a, .inl x0, .inl x1] n μ Q) (w : ∀ (x : Int) (n' : Nat) (ν : Mem), Q x n' ν → Wa G Y Z c0 s0 n' ν (pc + 3) L (.inl x :: st)) : Wa G Y Z c0 s0 n μ pc L (.inl x1 :: .inl x0 :: .inr a :: st) :=
  c_VI (Yc := Y_X11_tick) (As := [.inl x0, .inl x1]) rfl hd (by rw [hY]; exact lm_L_69) mc_X11_tick mi_X11_tick ms_X11_tick hst (fits_of hf hc hs) cf_11.2.1 (by decide) ho h rfl rfl w
theorem lm_L_70 : Cond.methodLink RL 70 yX10_asks ∈ gT := gT_mem (i := 762) (by decide +kernel) (by decide +kernel)
theorem k_L_70 {G : GT} {Y : MD} {Z : ZT} {c0 s0 n pc : Nat} {μ : Mem} {L : List (Nat × AV)} {st : List AV} {a : Int} {x0 x1 x2 x3 : Int} {Q : Int → Nat → Mem → Prop} (hY : Y.1.cls = RL) (hd : decode Y.2.1 pc = .ok (.invokevirtual 70, 3)) (hst : st.length ≤ 8) (hf : fitsB Y Y_X10_asks = true) (hc : c0 + 0 ≤ Y.2.2.2.2.2.2.1) (hs : s0 + 0 ≤ Y.2.2.2.2.2.2.2) (ho : gx G n μ → 0 ≤ a ∧ a < n ∧ SH a = (10, 12)) (h : CI G Y_X10_asks [.inr a, .inl x0, .inl x1, .inl x2, .inl x3] n μ Q) (w : ∀ (x : Int) (n' : Nat) (ν : Mem), Q x n' ν → Wa G Y Z c0 s0 n' ν (pc + 3) L (.inl x :: st)) : Wa G Y Z c0 s0 n μ pc L (.inl x3 :: .inl x2 :: .inl x1 :: .inl x0 :: .inr a :: st) :=
  c_VI (Yc := Y_X10_asks) (As := [.inl x0, .inl x1, .inl x2, .inl x3]) rfl hd (by rw [hY]; exact lm_L_70) mc_X10_asks mi_X10_asks ms_X10_asks hst (fits_of hf hc hs) cf_10.2.1 (by decide) ho h rfl rfl w
theorem lm_L_74 : Cond.methodLink RL 74 yX11_asks ∈ gT := gT_mem (i := 1120) (by decide +kernel) (by decide +kernel)
theorem k_L_74 {G : GT} {Y : MD} {Z : ZT} {c0 s0 n pc : Nat} {μ : Mem} {L : List (Nat × AV)} {st : List AV} {a : Int} {x0 x1 x2 x3 : Int} {Q : Int → Nat → Mem → Prop} (hY : Y.1.cls = RL) (hd : decode Y.2.1 pc = .ok (.invokevirtual 74, 3)) (hst : st.length ≤ 8) (hf : fitsB Y Y_X11_asks = true) (hc : c0 + 0 ≤ Y.2.2.2.2.2.2.1) (hs : s0 + 0 ≤ Y.2.2.2.2.2.2.2) (ho : gx G n μ → 0 ≤ a ∧ a < n ∧ SH a = (11, 28)) (h : CI G Y_X11_asks [.inr a, .inl x0, .inl x1, .inl x2, .inl x3] n μ Q) (w : ∀ (x : Int) (n' : Nat) (ν : Mem), Q x n' ν → Wa G Y Z c0 s0 n' ν (pc + 3) L (.inl x :: st)) : Wa G Y Z c0 s0 n μ pc L (.inl x3 :: .inl x2 :: .inl x1 :: .inl x0 :: .inr a :: st) :=
  c_VI (Yc := Y_X11_asks) (As := [.inl x0, .inl x1, .inl x2, .inl x3]) rfl hd (by rw [hY]; exact lm_L_74) mc_X11_asks mi_X11_asks ms_X11_asks hst (fits_of hf hc hs) cf_11.2.1 (by decide) ho h rfl rfl w
theorem lm_L_75 : Cond.methodLink RL 75 yX10_largest ∈ gT := gT_mem (i := 772) (by decide +kernel) (by decide +kernel)
theorem k_L_75 {G : GT} {Y : MD} {Z : ZT} {c0 s0 n pc : Nat} {μ : Mem} {L : List (Nat × AV)} {st : List AV} {a : Int} {x0 x1 x2 x3 : Int} {Q : Int → Nat → Mem → Prop} (hY : Y.1.cls = RL) (hd : decode Y.2.1 pc = .ok (.invokevirtual 75, 3)) (hst : st.length ≤ 8) (hf : fitsB Y Y_X10_largest = true) (hc : c0 + 0 ≤ Y.2.2.2.2.2.2.1) (hs : s0 + 0 ≤ Y.2.2.2.2.2.2.2) (ho : gx G n μ → 0 ≤ a ∧ a < n ∧ SH a = (10, 12)) (h : CI G Y_X10_largest [.inr a, .inl x0, .inl x1, .inl x2, .inl x3] n μ Q) (w : ∀ (x : Int) (n' : Nat) (ν : Mem), Q x n' ν → Wa G Y Z c0 s0 n' ν (pc + 3) L (.inl x :: st)) : Wa G Y Z c0 s0 n μ pc L (.inl x3 :: .inl x2 :: .inl x1 :: .inl x0 :: .inr a :: st) :=
  c_VI (Yc := Y_X10_largest) (As := [.inl x0, .inl x1, .inl x2, .inl x3]) rfl hd (by rw [hY]; exact lm_L_75) mc_X10_largest mi_X10_largest ms_X10_largest hst (fits_of hf hc hs) cf_10.2.1 (by decide) ho h rfl rfl w
theorem lm_L_78 : Cond.methodLink RL 78 yX11_largest ∈ gT := gT_mem (i := 1128) (by decide +kernel) (by decide +kernel)
theorem k_L_78 {G : GT} {Y : MD} {Z : ZT} {c0 s0 n pc : Nat} {μ : Mem} {L : List (Nat × AV)} {st : List AV} {a : Int} {x0 x1 x2 x3 : Int} {Q : Int → Nat → Mem → Prop} (hY : Y.1.cls = RL) (hd : decode Y.2.1 pc = .ok (.invokevirtual 78, 3)) (hst : st.length ≤ 8) (hf : fitsB Y Y_X11_largest = true) (hc : c0 + 0 ≤ Y.2.2.2.2.2.2.1) (hs : s0 + 0 ≤ Y.2.2.2.2.2.2.2) (ho : gx G n μ → 0 ≤ a ∧ a < n ∧ SH a = (11, 28)) (h : CI G Y_X11_largest [.inr a, .inl x0, .inl x1, .inl x2, .inl x3] n μ Q) (w : ∀ (x : Int) (n' : Nat) (ν : Mem), Q x n' ν → Wa G Y Z c0 s0 n' ν (pc + 3) L (.inl x :: st)) : Wa G Y Z c0 s0 n μ pc L (.inl x3 :: .inl x2 :: .inl x1 :: .inl x0 :: .inr a :: st) :=
  c_VI (Yc := Y_X11_largest) (As := [.inl x0, .inl x1, .inl x2, .inl x3]) rfl hd (by rw [hY]; exact lm_L_78) mc_X11_largest mi_X11_largest ms_X11_largest hst (fits_of hf hc hs) cf_11.2.1 (by decide) ho h rfl rfl w
theorem lm_L_79 : Cond.methodLink RL 79 yX10_worst ∈ gT := gT_mem (i := 776) (by decide +kernel) (by decide +kernel)
theorem k_L_79 {G : GT} {Y : MD} {Z : ZT} {c0 s0 n pc : Nat} {μ : Mem} {L : List (Nat × AV)} {st : List AV} {a : Int} {Q : Int → Nat → Mem → Prop} (hY : Y.1.cls = RL) (hd : decode Y.2.1 pc = .ok (.invokevirtual 79, 3)) (hst : st.length ≤ 8) (hf : fitsB Y Y_X10_worst = true) (hc : c0 + 0 ≤ Y.2.2.2.2.2.2.1) (hs : s0 + 0 ≤ Y.2.2.2.2.2.2.2) (ho : gx G n μ → 0 ≤ a ∧ a < n ∧ SH a = (10, 12)) (h : CI G Y_X10_worst [.inr a] n μ Q) (w : ∀ (x : Int) (n' : Nat) (ν : Mem), Q x n' ν → Wa G Y Z c0 s0 n' ν (pc + 3) L (.inl x :: st)) : Wa G Y Z c0 s0 n μ pc L (.inr a :: st) :=
  c_VI (Yc := Y_X10_worst) (As := []) rfl hd (by rw [hY]; exact lm_L_79) mc_X10_worst mi_X10_worst ms_X10_worst hst (fits_of hf hc hs) cf_10.2.1 (by decide) ho h rfl rfl w
theorem lm_L_82 : Cond.methodLink RL 82 yX11_worst ∈ gT := gT_mem (i := 1132) (by decide +kernel) (by decide +kernel)
theorem k_L_82 {G : GT} {Y : MD} {Z : ZT} {c0 s0 n pc : Nat} {μ : Mem} {L : List (Nat × AV)} {st : List AV} {a : Int} {Q : Int → Nat → Mem → Prop} (hY : Y.1.cls = RL) (hd : decode Y.2.1 pc = .ok (.invokevirtual 82, 3)) (hst : st.length ≤ 8) (hf : fitsB Y Y_X11_worst = true) (hc : c0 + 0 ≤ Y.2.2.2.2.2.2.1) (hs : s0 + 0 ≤ Y.2.2.2.2.2.2.2) (ho : gx G n μ → 0 ≤ a ∧ a < n ∧ SH a = (11, 28)) (h : CI G Y_X11_worst [.inr a] n μ Q) (w : ∀ (x : Int) (n' : Nat) (ν : Mem), Q x n' ν → Wa G Y Z c0 s0 n' ν (pc + 3) L (.inl x :: st)) : Wa G Y Z c0 s0 n μ pc L (.inr a :: st) :=
  c_VI (Yc := Y_X11_worst) (As := []) rfl hd (by rw [hY]; exact lm_L_82) mc_X11_worst mi_X11_worst ms_X11_worst hst (fits_of hf hc hs) cf_11.2.1 (by decide) ho h rfl rfl w
theorem lm_L_83 : Cond.methodLink RL 83 yX10_sees ∈ gT := gT_mem (i := 781) (by decide +kernel) (by decide +kernel)
theorem k_L_83 {G : GT} {Y : MD} {Z : ZT} {c0 s0 n pc : Nat} {μ : Mem} {L : List (Nat × AV)} {st : List AV} {a : Int} {x0 x1 x2 : Int} {Q : Int → Nat → Mem → Prop} (hY : Y.1.cls = RL) (hd : decode Y.2.1 pc = .ok (.invokevirtual 83, 3)) (hst : st.length ≤ 8) (hf : fitsB Y Y_X10_sees = true) (hc : c0 + 0 ≤ Y.2.2.2.2.2.2.1) (hs : s0 + 0 ≤ Y.2.2.2.2.2.2.2) (ho : gx G n μ → 0 ≤ a ∧ a < n ∧ SH a = (10, 12)) (h : CI G Y_X10_sees [.inr a, .inl x0, .inl x1, .inl x2] n μ Q) (w : ∀ (x : Int) (n' : Nat) (ν : Mem), Q x n' ν → Wa G Y Z c0 s0 n' ν (pc + 3) L (.inl x :: st)) : Wa G Y Z c0 s0 n μ pc L (.inl x2 :: .inl x1 :: .inl x0 :: .inr a :: st) :=
  c_VI (Yc := Y_X10_sees) (As := [.inl x0, .inl x1, .inl x2]) rfl hd (by rw [hY]; exact lm_L_83) mc_X10_sees mi_X10_sees ms_X10_sees hst (fits_of hf hc hs) cf_10.2.1 (by decide) ho h rfl rfl w
theorem lm_L_86 : Cond.methodLink RL 86 yX11_sees ∈ gT := gT_mem (i := 1136) (by decide +kernel) (by decide +kernel)
theorem k_L_86 {G : GT} {Y : MD} {Z : ZT} {c0 s0 n pc : Nat} {μ : Mem} {L : List (Nat × AV)} {st : List AV} {a : Int} {x0 x1 x2 : Int} {Q : Int → Nat → Mem → Prop} (hY : Y.1.cls = RL) (hd : decode Y.2.1 pc = .ok (.invokevirtual 86, 3)) (hst : st.length ≤ 8) (hf : fitsB Y Y_X11_sees = true) (hc : c0 + 0 ≤ Y.2.2.2.2.2.2.1) (hs : s0 + 0 ≤ Y.2.2.2.2.2.2.2) (ho : gx G n μ → 0 ≤ a ∧ a < n ∧ SH a = (11, 28)) (h : CI G Y_X11_sees [.inr a, .inl x0, .inl x1, .inl x2] n μ Q) (w : ∀ (x : Int) (n' : Nat) (ν : Mem), Q x n' ν → Wa G Y Z c0 s0 n' ν (pc + 3) L (.inl x :: st)) : Wa G Y Z c0 s0 n μ pc L (.inl x2 :: .inl x1 :: .inl x0 :: .inr a :: st) :=
  c_VI (Yc := Y_X11_sees) (As := [.inl x0, .inl x1, .inl x2]) rfl hd (by rw [hY]; exact lm_L_86) mc_X11_sees mi_X11_sees ms_X11_sees hst (fits_of hf hc hs) cf_11.2.1 (by decide) ho h rfl rfl w
theorem lm_L_87 : Cond.methodLink RL 87 yX10_forget ∈ gT := gT_mem (i := 787) (by decide +kernel) (by decide +kernel)
theorem k_L_87 {G : GT} {Y : MD} {Z : ZT} {c0 s0 n pc : Nat} {μ : Mem} {L : List (Nat × AV)} {st : List AV} {a : Int} {Q : Int → Nat → Mem → Prop} (hY : Y.1.cls = RL) (hd : decode Y.2.1 pc = .ok (.invokevirtual 87, 3)) (hst : st.length ≤ 8) (hf : fitsB Y Y_X10_forget = true) (hc : c0 + 0 ≤ Y.2.2.2.2.2.2.1) (hs : s0 + 0 ≤ Y.2.2.2.2.2.2.2) (ho : gx G n μ → 0 ≤ a ∧ a < n ∧ SH a = (10, 12)) (h : CI G Y_X10_forget [.inr a] n μ Q) (w : ∀ (x : Int) (n' : Nat) (ν : Mem), Q x n' ν → Wa G Y Z c0 s0 n' ν (pc + 3) L (.inl x :: st)) : Wa G Y Z c0 s0 n μ pc L (.inr a :: st) :=
  c_VI (Yc := Y_X10_forget) (As := []) rfl hd (by rw [hY]; exact lm_L_87) mc_X10_forget mi_X10_forget ms_X10_forget hst (fits_of hf hc hs) cf_10.2.1 (by decide) ho h rfl rfl w
theorem lm_L_90 : Cond.methodLink RL 90 yX11_forget ∈ gT := gT_mem (i := 1140) (by decide +kernel) (by decide +kernel)
theorem k_L_90 {G : GT} {Y : MD} {Z : ZT} {c0 s0 n pc : Nat} {μ : Mem} {L : List (Nat × AV)} {st : List AV} {a : Int} {Q : Int → Nat → Mem → Prop} (hY : Y.1.cls = RL) (hd : decode Y.2.1 pc = .ok (.invokevirtual 90, 3)) (hst : st.length ≤ 8) (hf : fitsB Y Y_X11_forget = true) (hc : c0 + 0 ≤ Y.2.2.2.2.2.2.1) (hs : s0 + 0 ≤ Y.2.2.2.2.2.2.2) (ho : gx G n μ → 0 ≤ a ∧ a < n ∧ SH a = (11, 28)) (h : CI G Y_X11_forget [.inr a] n μ Q) (w : ∀ (x : Int) (n' : Nat) (ν : Mem), Q x n' ν → Wa G Y Z c0 s0 n' ν (pc + 3) L (.inl x :: st)) : Wa G Y Z c0 s0 n μ pc L (.inr a :: st) :=
  c_VI (Yc := Y_X11_forget) (As := []) rfl hd (by rw [hY]; exact lm_L_90) mc_X11_forget mi_X11_forget ms_X11_forget hst (fits_of hf hc hs) cf_11.2.1 (by decide) ho h rfl rfl w
theorem lm_L_91 : Cond.methodLink RL 91 yX10_unseen ∈ gT := gT_mem (i := 791) (by decide +kernel) (by decide +kernel)
theorem k_L_91 {G : GT} {Y : MD} {Z : ZT} {c0 s0 n pc : Nat} {μ : Mem} {L : List (Nat × AV)} {st : List AV} {a : Int} {Q : Int → Nat → Mem → Prop} (hY : Y.1.cls = RL) (hd : decode Y.2.1 pc = .ok (.invokevirtual 91, 3)) (hst : st.length ≤ 8) (hf : fitsB Y Y_X10_unseen = true) (hc : c0 + 0 ≤ Y.2.2.2.2.2.2.1) (hs : s0 + 0 ≤ Y.2.2.2.2.2.2.2) (ho : gx G n μ → 0 ≤ a ∧ a < n ∧ SH a = (10, 12)) (h : CI G Y_X10_unseen [.inr a] n μ Q) (w : ∀ (x : Int) (n' : Nat) (ν : Mem), Q x n' ν → Wa G Y Z c0 s0 n' ν (pc + 3) L (.inl x :: st)) : Wa G Y Z c0 s0 n μ pc L (.inr a :: st) :=
  c_VI (Yc := Y_X10_unseen) (As := []) rfl hd (by rw [hY]; exact lm_L_91) mc_X10_unseen mi_X10_unseen ms_X10_unseen hst (fits_of hf hc hs) cf_10.2.1 (by decide) ho h rfl rfl w
theorem lm_L_94 : Cond.methodLink RL 94 yX11_unseen ∈ gT := gT_mem (i := 1144) (by decide +kernel) (by decide +kernel)
theorem k_L_94 {G : GT} {Y : MD} {Z : ZT} {c0 s0 n pc : Nat} {μ : Mem} {L : List (Nat × AV)} {st : List AV} {a : Int} {Q : Int → Nat → Mem → Prop} (hY : Y.1.cls = RL) (hd : decode Y.2.1 pc = .ok (.invokevirtual 94, 3)) (hst : st.length ≤ 8) (hf : fitsB Y Y_X11_unseen = true) (hc : c0 + 0 ≤ Y.2.2.2.2.2.2.1) (hs : s0 + 0 ≤ Y.2.2.2.2.2.2.2) (ho : gx G n μ → 0 ≤ a ∧ a < n ∧ SH a = (11, 28)) (h : CI G Y_X11_unseen [.inr a] n μ Q) (w : ∀ (x : Int) (n' : Nat) (ν : Mem), Q x n' ν → Wa G Y Z c0 s0 n' ν (pc + 3) L (.inl x :: st)) : Wa G Y Z c0 s0 n μ pc L (.inr a :: st) :=
  c_VI (Yc := Y_X11_unseen) (As := []) rfl hd (by rw [hY]; exact lm_L_94) mc_X11_unseen mi_X11_unseen ms_X11_unseen hst (fits_of hf hc hs) cf_11.2.1 (by decide) ho h rfl rfl w
theorem lm_L_95 : Cond.methodLink RL 95 yX10_keep ∈ gT := gT_mem (i := 799) (by decide +kernel) (by decide +kernel)
theorem k_L_95 {G : GT} {Y : MD} {Z : ZT} {c0 s0 n pc : Nat} {μ : Mem} {L : List (Nat × AV)} {st : List AV} {a : Int} {x0 : Int} {Q : Int → Nat → Mem → Prop} (hY : Y.1.cls = RL) (hd : decode Y.2.1 pc = .ok (.invokevirtual 95, 3)) (hst : st.length ≤ 8) (hf : fitsB Y Y_X10_keep = true) (hc : c0 + 0 ≤ Y.2.2.2.2.2.2.1) (hs : s0 + 0 ≤ Y.2.2.2.2.2.2.2) (ho : gx G n μ → 0 ≤ a ∧ a < n ∧ SH a = (10, 12)) (h : CI G Y_X10_keep [.inr a, .inl x0] n μ Q) (w : ∀ (x : Int) (n' : Nat) (ν : Mem), Q x n' ν → Wa G Y Z c0 s0 n' ν (pc + 3) L (.inl x :: st)) : Wa G Y Z c0 s0 n μ pc L (.inl x0 :: .inr a :: st) :=
  c_VI (Yc := Y_X10_keep) (As := [.inl x0]) rfl hd (by rw [hY]; exact lm_L_95) mc_X10_keep mi_X10_keep ms_X10_keep hst (fits_of hf hc hs) cf_10.2.1 (by decide) ho h rfl rfl w
theorem lm_L_98 : Cond.methodLink RL 98 yX11_keep ∈ gT := gT_mem (i := 1148) (by decide +kernel) (by decide +kernel)
theorem k_L_98 {G : GT} {Y : MD} {Z : ZT} {c0 s0 n pc : Nat} {μ : Mem} {L : List (Nat × AV)} {st : List AV} {a : Int} {x0 : Int} {Q : Int → Nat → Mem → Prop} (hY : Y.1.cls = RL) (hd : decode Y.2.1 pc = .ok (.invokevirtual 98, 3)) (hst : st.length ≤ 8) (hf : fitsB Y Y_X11_keep = true) (hc : c0 + 0 ≤ Y.2.2.2.2.2.2.1) (hs : s0 + 0 ≤ Y.2.2.2.2.2.2.2) (ho : gx G n μ → 0 ≤ a ∧ a < n ∧ SH a = (11, 28)) (h : CI G Y_X11_keep [.inr a, .inl x0] n μ Q) (w : ∀ (x : Int) (n' : Nat) (ν : Mem), Q x n' ν → Wa G Y Z c0 s0 n' ν (pc + 3) L (.inl x :: st)) : Wa G Y Z c0 s0 n μ pc L (.inl x0 :: .inr a :: st) :=
  c_VI (Yc := Y_X11_keep) (As := [.inl x0]) rfl hd (by rw [hY]; exact lm_L_98) mc_X11_keep mi_X11_keep ms_X11_keep hst (fits_of hf hc hs) cf_11.2.1 (by decide) ho h rfl rfl w
theorem lm_L_99 : Cond.methodLink RL 99 yX10_back ∈ gT := gT_mem (i := 807) (by decide +kernel) (by decide +kernel)
theorem k_L_99 {G : GT} {Y : MD} {Z : ZT} {c0 s0 n pc : Nat} {μ : Mem} {L : List (Nat × AV)} {st : List AV} {a : Int} {x0 : Int} {Q : Int → Nat → Mem → Prop} (hY : Y.1.cls = RL) (hd : decode Y.2.1 pc = .ok (.invokevirtual 99, 3)) (hst : st.length ≤ 8) (hf : fitsB Y Y_X10_back = true) (hc : c0 + 0 ≤ Y.2.2.2.2.2.2.1) (hs : s0 + 0 ≤ Y.2.2.2.2.2.2.2) (ho : gx G n μ → 0 ≤ a ∧ a < n ∧ SH a = (10, 12)) (h : CI G Y_X10_back [.inr a, .inl x0] n μ Q) (w : ∀ (x : Int) (n' : Nat) (ν : Mem), Q x n' ν → Wa G Y Z c0 s0 n' ν (pc + 3) L (.inl x :: st)) : Wa G Y Z c0 s0 n μ pc L (.inl x0 :: .inr a :: st) :=
  c_VI (Yc := Y_X10_back) (As := [.inl x0]) rfl hd (by rw [hY]; exact lm_L_99) mc_X10_back mi_X10_back ms_X10_back hst (fits_of hf hc hs) cf_10.2.1 (by decide) ho h rfl rfl w
theorem lm_L_102 : Cond.methodLink RL 102 yX11_back ∈ gT := gT_mem (i := 1152) (by decide +kernel) (by decide +kernel)
theorem k_L_102 {G : GT} {Y : MD} {Z : ZT} {c0 s0 n pc : Nat} {μ : Mem} {L : List (Nat × AV)} {st : List AV} {a : Int} {x0 : Int} {Q : Int → Nat → Mem → Prop} (hY : Y.1.cls = RL) (hd : decode Y.2.1 pc = .ok (.invokevirtual 102, 3)) (hst : st.length ≤ 8) (hf : fitsB Y Y_X11_back = true) (hc : c0 + 0 ≤ Y.2.2.2.2.2.2.1) (hs : s0 + 0 ≤ Y.2.2.2.2.2.2.2) (ho : gx G n μ → 0 ≤ a ∧ a < n ∧ SH a = (11, 28)) (h : CI G Y_X11_back [.inr a, .inl x0] n μ Q) (w : ∀ (x : Int) (n' : Nat) (ν : Mem), Q x n' ν → Wa G Y Z c0 s0 n' ν (pc + 3) L (.inl x :: st)) : Wa G Y Z c0 s0 n μ pc L (.inl x0 :: .inr a :: st) :=
  c_VI (Yc := Y_X11_back) (As := [.inl x0]) rfl hd (by rw [hY]; exact lm_L_102) mc_X11_back mi_X11_back ms_X11_back hst (fits_of hf hc hs) cf_11.2.1 (by decide) ho h rfl rfl w
theorem lm_L_103 : Cond.methodLink RL 103 yX10_count ∈ gT := gT_mem (i := 811) (by decide +kernel) (by decide +kernel)
theorem k_L_103 {G : GT} {Y : MD} {Z : ZT} {c0 s0 n pc : Nat} {μ : Mem} {L : List (Nat × AV)} {st : List AV} {a : Int} {x0 : Int} {Q : Int → Nat → Mem → Prop} (hY : Y.1.cls = RL) (hd : decode Y.2.1 pc = .ok (.invokevirtual 103, 3)) (hst : st.length ≤ 8) (hf : fitsB Y Y_X10_count = true) (hc : c0 + 0 ≤ Y.2.2.2.2.2.2.1) (hs : s0 + 0 ≤ Y.2.2.2.2.2.2.2) (ho : gx G n μ → 0 ≤ a ∧ a < n ∧ SH a = (10, 12)) (h : CI G Y_X10_count [.inr a, .inl x0] n μ Q) (w : ∀ (x : Int) (n' : Nat) (ν : Mem), Q x n' ν → Wa G Y Z c0 s0 n' ν (pc + 3) L (.inl x :: st)) : Wa G Y Z c0 s0 n μ pc L (.inl x0 :: .inr a :: st) :=
  c_VI (Yc := Y_X10_count) (As := [.inl x0]) rfl hd (by rw [hY]; exact lm_L_103) mc_X10_count mi_X10_count ms_X10_count hst (fits_of hf hc hs) cf_10.2.1 (by decide) ho h rfl rfl w
theorem lm_L_106 : Cond.methodLink RL 106 yX11_count ∈ gT := gT_mem (i := 1156) (by decide +kernel) (by decide +kernel)
theorem k_L_106 {G : GT} {Y : MD} {Z : ZT} {c0 s0 n pc : Nat} {μ : Mem} {L : List (Nat × AV)} {st : List AV} {a : Int} {x0 : Int} {Q : Int → Nat → Mem → Prop} (hY : Y.1.cls = RL) (hd : decode Y.2.1 pc = .ok (.invokevirtual 106, 3)) (hst : st.length ≤ 8) (hf : fitsB Y Y_X11_count = true) (hc : c0 + 0 ≤ Y.2.2.2.2.2.2.1) (hs : s0 + 0 ≤ Y.2.2.2.2.2.2.2) (ho : gx G n μ → 0 ≤ a ∧ a < n ∧ SH a = (11, 28)) (h : CI G Y_X11_count [.inr a, .inl x0] n μ Q) (w : ∀ (x : Int) (n' : Nat) (ν : Mem), Q x n' ν → Wa G Y Z c0 s0 n' ν (pc + 3) L (.inl x :: st)) : Wa G Y Z c0 s0 n μ pc L (.inl x0 :: .inr a :: st) :=
  c_VI (Yc := Y_X11_count) (As := [.inl x0]) rfl hd (by rw [hY]; exact lm_L_106) mc_X11_count mi_X11_count ms_X11_count hst (fits_of hf hc hs) cf_11.2.1 (by decide) ho h rfl rfl w
theorem lm_X11_1 : Cond.methodLink RX11 1 Lib.objectInit ∈ gT := gT_mem (i := 820) (by decide +kernel) (by decide +kernel)
theorem k_X11_1 {G : GT} {Y : MD} {Z : ZT} {c0 s0 n pc : Nat} {μ : Mem} {L : List (Nat × AV)} {st : List AV} {a : Int} (hY : Y.1.cls = RX11) (hd : decode Y.2.1 pc = .ok (.invokespecial 1, 3)) (ha : 0 ≤ a) (hst : st.length ≤ 8) (hf : Nat.ble 1 Y.2.2.2.2.1 = true) (hlo : Nat.ble 20 Y.2.2.2.2.2.1 = true) (w : Wa G Y Z c0 s0 n μ (pc + 3) L st) : Wa G Y Z c0 s0 n μ pc L (.inr a :: st) :=
  a_objInit hd (by rw [hY]; exact lm_X11_1) oi_i oi_c ha hst (Nat.le_of_ble_eq_true hf) (Nat.le_of_ble_eq_true hlo) w
theorem lm_X11_56 : Cond.methodLink RX11 56 yX11_begins ∈ gT := gT_mem (i := 821) (by decide +kernel) (by decide +kernel)
theorem k_X11_56 {G : GT} {Y : MD} {Z : ZT} {c0 s0 n pc : Nat} {μ : Mem} {L : List (Nat × AV)} {st : List AV} {a : Int} {Q : Nat → Mem → Prop} (hY : Y.1.cls = RX11) (hd : decode Y.2.1 pc = .ok (.invokevirtual 56, 3)) (hst : st.length ≤ 8) (hf : fitsB Y Y_X11_begins = true) (hc : c0 + 0 ≤ Y.2.2.2.2.2.2.1) (hs : s0 + 0 ≤ Y.2.2.2.2.2.2.2) (ho : gx G n μ → 0 ≤ a ∧ a < n ∧ SH a = (11, 28)) (h : CV G Y_X11_begins [.inr a] n μ Q) (w : ∀ (n' : Nat) (ν : Mem), Q n' ν → Wa G Y Z c0 s0 n' ν (pc + 3) L st) : Wa G Y Z c0 s0 n μ pc L (.inr a :: st) :=
  c_VV (Yc := Y_X11_begins) (As := []) rfl hd (by rw [hY]; exact lm_X11_56) mc_X11_begins mi_X11_begins ms_X11_begins hst (fits_of hf hc hs) cf_11.2.1 (by decide) ho h rfl rfl w
theorem lm_X11_59 : Cond.methodLink RX11 59 yX11_becomes ∈ gT := gT_mem (i := 825) (by decide +kernel) (by decide +kernel)
theorem k_X11_59 {G : GT} {Y : MD} {Z : ZT} {c0 s0 n pc : Nat} {μ : Mem} {L : List (Nat × AV)} {st : List AV} {a : Int} {Q : Nat → Mem → Prop} (hY : Y.1.cls = RX11) (hd : decode Y.2.1 pc = .ok (.invokevirtual 59, 3)) (hst : st.length ≤ 8) (hf : fitsB Y Y_X11_becomes = true) (hc : c0 + 0 ≤ Y.2.2.2.2.2.2.1) (hs : s0 + 0 ≤ Y.2.2.2.2.2.2.2) (ho : gx G n μ → 0 ≤ a ∧ a < n ∧ SH a = (11, 28)) (h : CV G Y_X11_becomes [.inr a] n μ Q) (w : ∀ (n' : Nat) (ν : Mem), Q n' ν → Wa G Y Z c0 s0 n' ν (pc + 3) L st) : Wa G Y Z c0 s0 n μ pc L (.inr a :: st) :=
  c_VV (Yc := Y_X11_becomes) (As := []) rfl hd (by rw [hY]; exact lm_X11_59) mc_X11_becomes mi_X11_becomes ms_X11_becomes hst (fits_of hf hc hs) cf_11.2.1 (by decide) ho h rfl rfl w
theorem lm_X11_69 : Cond.methodLink RX11 69 yX11_in ∈ gT := gT_mem (i := 919) (by decide +kernel) (by decide +kernel)
theorem k_X11_69 {G : GT} {Y : MD} {Z : ZT} {c0 s0 n pc : Nat} {μ : Mem} {L : List (Nat × AV)} {st : List AV} {x0 x1 x2 : Int} {Q : Int → Nat → Mem → Prop} (hY : Y.1.cls = RX11) (hd : decode Y.2.1 pc = .ok (.invokestatic 69, 3)) (hst : st.length ≤ 8) (hf : fitsB Y Y_X11_in = true) (hc : c0 + 0 ≤ Y.2.2.2.2.2.2.1) (hs : s0 + 0 ≤ Y.2.2.2.2.2.2.2) (h : CI G Y_X11_in [.inl x0, .inl x1, .inl x2] n μ Q) (w : ∀ (x : Int) (n' : Nat) (ν : Mem), Q x n' ν → Wa G Y Z c0 s0 n' ν (pc + 3) L (.inl x :: st)) : Wa G Y Z c0 s0 n μ pc L (.inl x2 :: .inl x1 :: .inl x0 :: st) :=
  c_SI (Yc := Y_X11_in) (As := [.inl x0, .inl x1, .inl x2]) rfl hd (by rw [hY]; exact lm_X11_69) mc_X11_in mt_X11_in hst (fits_of hf hc hs) h rfl rfl w
theorem lm_X11_88 : Cond.methodLink RX11 88 yX11_isFigure ∈ gT := gT_mem (i := 934) (by decide +kernel) (by decide +kernel)
theorem k_X11_88 {G : GT} {Y : MD} {Z : ZT} {c0 s0 n pc : Nat} {μ : Mem} {L : List (Nat × AV)} {st : List AV} {a : Int} {x0 : Int} {Q : Int → Nat → Mem → Prop} (hY : Y.1.cls = RX11) (hd : decode Y.2.1 pc = .ok (.invokevirtual 88, 3)) (hst : st.length ≤ 8) (hf : fitsB Y Y_X11_isFigure = true) (hc : c0 + 0 ≤ Y.2.2.2.2.2.2.1) (hs : s0 + 0 ≤ Y.2.2.2.2.2.2.2) (ho : gx G n μ → 0 ≤ a ∧ a < n ∧ SH a = (11, 28)) (h : CI G Y_X11_isFigure [.inr a, .inl x0] n μ Q) (w : ∀ (x : Int) (n' : Nat) (ν : Mem), Q x n' ν → Wa G Y Z c0 s0 n' ν (pc + 3) L (.inl x :: st)) : Wa G Y Z c0 s0 n μ pc L (.inl x0 :: .inr a :: st) :=
  c_VI (Yc := Y_X11_isFigure) (As := [.inl x0]) rfl hd (by rw [hY]; exact lm_X11_88) mc_X11_isFigure mi_X11_isFigure ms_X11_isFigure hst (fits_of hf hc hs) cf_11.2.1 (by decide) ho h rfl rfl w
theorem lm_X11_92 : Cond.methodLink RX11 92 yX11_takes ∈ gT := gT_mem (i := 930) (by decide +kernel) (by decide +kernel)
theorem k_X11_92 {G : GT} {Y : MD} {Z : ZT} {c0 s0 n pc : Nat} {μ : Mem} {L : List (Nat × AV)} {st : List AV} {a : Int} {Q : Nat → Mem → Prop} (hY : Y.1.cls = RX11) (hd : decode Y.2.1 pc = .ok (.invokevirtual 92, 3)) (hst : st.length ≤ 8) (hf : fitsB Y Y_X11_takes = true) (hc : c0 + 0 ≤ Y.2.2.2.2.2.2.1) (hs : s0 + 0 ≤ Y.2.2.2.2.2.2.2) (ho : gx G n μ → 0 ≤ a ∧ a < n ∧ SH a = (11, 28)) (h : CV G Y_X11_takes [.inr a] n μ Q) (w : ∀ (n' : Nat) (ν : Mem), Q n' ν → Wa G Y Z c0 s0 n' ν (pc + 3) L st) : Wa G Y Z c0 s0 n μ pc L (.inr a :: st) :=
  c_VV (Yc := Y_X11_takes) (As := []) rfl hd (by rw [hY]; exact lm_X11_92) mc_X11_takes mi_X11_takes ms_X11_takes hst (fits_of hf hc hs) cf_11.2.1 (by decide) ho h rfl rfl w
theorem lm_X11_101 : Cond.methodLink RX11 101 yX11_reads ∈ gT := gT_mem (i := 946) (by decide +kernel) (by decide +kernel)
theorem k_X11_101 {G : GT} {Y : MD} {Z : ZT} {c0 s0 n pc : Nat} {μ : Mem} {L : List (Nat × AV)} {st : List AV} {a : Int} {x0 x1 x2 : Int} {Q : Int → Nat → Mem → Prop} (hY : Y.1.cls = RX11) (hd : decode Y.2.1 pc = .ok (.invokevirtual 101, 3)) (hst : st.length ≤ 8) (hf : fitsB Y Y_X11_reads = true) (hc : c0 + 0 ≤ Y.2.2.2.2.2.2.1) (hs : s0 + 0 ≤ Y.2.2.2.2.2.2.2) (ho : gx G n μ → 0 ≤ a ∧ a < n ∧ SH a = (11, 28)) (h : CI G Y_X11_reads [.inr a, .inl x0, .inl x1, .inl x2] n μ Q) (w : ∀ (x : Int) (n' : Nat) (ν : Mem), Q x n' ν → Wa G Y Z c0 s0 n' ν (pc + 3) L (.inl x :: st)) : Wa G Y Z c0 s0 n μ pc L (.inl x2 :: .inl x1 :: .inl x0 :: .inr a :: st) :=
  c_VI (Yc := Y_X11_reads) (As := [.inl x0, .inl x1, .inl x2]) rfl hd (by rw [hY]; exact lm_X11_101) mc_X11_reads mi_X11_reads ms_X11_reads hst (fits_of hf hc hs) cf_11.2.1 (by decide) ho h rfl rfl w
theorem lm_X11_110 : Cond.methodLink RX11 110 yX11_readsNodes ∈ gT := gT_mem (i := 938) (by decide +kernel) (by decide +kernel)
theorem k_X11_110 {G : GT} {Y : MD} {Z : ZT} {c0 s0 n pc : Nat} {μ : Mem} {L : List (Nat × AV)} {st : List AV} {a : Int} {x0 : Int} {Q : Int → Nat → Mem → Prop} (hY : Y.1.cls = RX11) (hd : decode Y.2.1 pc = .ok (.invokevirtual 110, 3)) (hst : st.length ≤ 8) (hf : fitsB Y Y_X11_readsNodes = true) (hc : c0 + 0 ≤ Y.2.2.2.2.2.2.1) (hs : s0 + 0 ≤ Y.2.2.2.2.2.2.2) (ho : gx G n μ → 0 ≤ a ∧ a < n ∧ SH a = (11, 28)) (h : CI G Y_X11_readsNodes [.inr a, .inl x0] n μ Q) (w : ∀ (x : Int) (n' : Nat) (ν : Mem), Q x n' ν → Wa G Y Z c0 s0 n' ν (pc + 3) L (.inl x :: st)) : Wa G Y Z c0 s0 n μ pc L (.inl x0 :: .inr a :: st) :=
  c_VI (Yc := Y_X11_readsNodes) (As := [.inl x0]) rfl hd (by rw [hY]; exact lm_X11_110) mc_X11_readsNodes mi_X11_readsNodes ms_X11_readsNodes hst (fits_of hf hc hs) cf_11.2.1 (by decide) ho h rfl rfl w
theorem lm_X11_113 : Cond.methodLink RX11 113 yX11_readsContact ∈ gT := gT_mem (i := 942) (by decide +kernel) (by decide +kernel)
theorem k_X11_113 {G : GT} {Y : MD} {Z : ZT} {c0 s0 n pc : Nat} {μ : Mem} {L : List (Nat × AV)} {st : List AV} {a : Int} {Q : Int → Nat → Mem → Prop} (hY : Y.1.cls = RX11) (hd : decode Y.2.1 pc = .ok (.invokevirtual 113, 3)) (hst : st.length ≤ 8) (hf : fitsB Y Y_X11_readsContact = true) (hc : c0 + 0 ≤ Y.2.2.2.2.2.2.1) (hs : s0 + 0 ≤ Y.2.2.2.2.2.2.2) (ho : gx G n μ → 0 ≤ a ∧ a < n ∧ SH a = (11, 28)) (h : CI G Y_X11_readsContact [.inr a] n μ Q) (w : ∀ (x : Int) (n' : Nat) (ν : Mem), Q x n' ν → Wa G Y Z c0 s0 n' ν (pc + 3) L (.inl x :: st)) : Wa G Y Z c0 s0 n μ pc L (.inr a :: st) :=
  c_VI (Yc := Y_X11_readsContact) (As := []) rfl hd (by rw [hY]; exact lm_X11_113) mc_X11_readsContact mi_X11_readsContact ms_X11_readsContact hst (fits_of hf hc hs) cf_11.2.1 (by decide) ho h rfl rfl w
theorem lm_X11_117 : Cond.methodLink RX11 117 yX11_isContact ∈ gT := gT_mem (i := 954) (by decide +kernel) (by decide +kernel)
theorem k_X11_117 {G : GT} {Y : MD} {Z : ZT} {c0 s0 n pc : Nat} {μ : Mem} {L : List (Nat × AV)} {st : List AV} {a : Int} {x0 : Int} {Q : Int → Nat → Mem → Prop} (hY : Y.1.cls = RX11) (hd : decode Y.2.1 pc = .ok (.invokevirtual 117, 3)) (hst : st.length ≤ 8) (hf : fitsB Y Y_X11_isContact = true) (hc : c0 + 0 ≤ Y.2.2.2.2.2.2.1) (hs : s0 + 0 ≤ Y.2.2.2.2.2.2.2) (ho : gx G n μ → 0 ≤ a ∧ a < n ∧ SH a = (11, 28)) (h : CI G Y_X11_isContact [.inr a, .inl x0] n μ Q) (w : ∀ (x : Int) (n' : Nat) (ν : Mem), Q x n' ν → Wa G Y Z c0 s0 n' ν (pc + 3) L (.inl x :: st)) : Wa G Y Z c0 s0 n μ pc L (.inl x0 :: .inr a :: st) :=
  c_VI (Yc := Y_X11_isContact) (As := [.inl x0]) rfl hd (by rw [hY]; exact lm_X11_117) mc_X11_isContact mi_X11_isContact ms_X11_isContact hst (fits_of hf hc hs) cf_11.2.1 (by decide) ho h rfl rfl w
theorem lm_X11_120 : Cond.methodLink RX11 120 yX11_isMissed ∈ gT := gT_mem (i := 958) (by decide +kernel) (by decide +kernel)
theorem k_X11_120 {G : GT} {Y : MD} {Z : ZT} {c0 s0 n pc : Nat} {μ : Mem} {L : List (Nat × AV)} {st : List AV} {a : Int} {x0 : Int} {Q : Int → Nat → Mem → Prop} (hY : Y.1.cls = RX11) (hd : decode Y.2.1 pc = .ok (.invokevirtual 120, 3)) (hst : st.length ≤ 8) (hf : fitsB Y Y_X11_isMissed = true) (hc : c0 + 0 ≤ Y.2.2.2.2.2.2.1) (hs : s0 + 0 ≤ Y.2.2.2.2.2.2.2) (ho : gx G n μ → 0 ≤ a ∧ a < n ∧ SH a = (11, 28)) (h : CI G Y_X11_isMissed [.inr a, .inl x0] n μ Q) (w : ∀ (x : Int) (n' : Nat) (ν : Mem), Q x n' ν → Wa G Y Z c0 s0 n' ν (pc + 3) L (.inl x :: st)) : Wa G Y Z c0 s0 n μ pc L (.inl x0 :: .inr a :: st) :=
  c_VI (Yc := Y_X11_isMissed) (As := [.inl x0]) rfl hd (by rw [hY]; exact lm_X11_120) mc_X11_isMissed mi_X11_isMissed ms_X11_isMissed hst (fits_of hf hc hs) cf_11.2.1 (by decide) ho h rfl rfl w
theorem lm_X11_123 : Cond.methodLink RX11 123 yX11_at ∈ gT := gT_mem (i := 978) (by decide +kernel) (by decide +kernel)
theorem k_X11_123 {G : GT} {Y : MD} {Z : ZT} {c0 s0 n pc : Nat} {μ : Mem} {L : List (Nat × AV)} {st : List AV} {x0 : Int} {Q : Int → Nat → Mem → Prop} (hY : Y.1.cls = RX11) (hd : decode Y.2.1 pc = .ok (.invokestatic 123, 3)) (hst : st.length ≤ 8) (hf : fitsB Y Y_X11_at = true) (hc : c0 + 0 ≤ Y.2.2.2.2.2.2.1) (hs : s0 + 0 ≤ Y.2.2.2.2.2.2.2) (h : CI G Y_X11_at [.inl x0] n μ Q) (w : ∀ (x : Int) (n' : Nat) (ν : Mem), Q x n' ν → Wa G Y Z c0 s0 n' ν (pc + 3) L (.inl x :: st)) : Wa G Y Z c0 s0 n μ pc L (.inl x0 :: st) :=
  c_SI (Yc := Y_X11_at) (As := [.inl x0]) rfl hd (by rw [hY]; exact lm_X11_123) mc_X11_at mt_X11_at hst (fits_of hf hc hs) h rfl rfl w
theorem lm_X11_127 : Cond.methodLink RX11 127 yX11_its ∈ gT := gT_mem (i := 988) (by decide +kernel) (by decide +kernel)
theorem k_X11_127 {G : GT} {Y : MD} {Z : ZT} {c0 s0 n pc : Nat} {μ : Mem} {L : List (Nat × AV)} {st : List AV} {a : Int} {x0 x1 : Int} {Q : Int → Nat → Mem → Prop} (hY : Y.1.cls = RX11) (hd : decode Y.2.1 pc = .ok (.invokevirtual 127, 3)) (hst : st.length ≤ 8) (hf : fitsB Y Y_X11_its = true) (hc : c0 + 0 ≤ Y.2.2.2.2.2.2.1) (hs : s0 + 0 ≤ Y.2.2.2.2.2.2.2) (ho : gx G n μ → 0 ≤ a ∧ a < n ∧ SH a = (11, 28)) (h : CI G Y_X11_its [.inr a, .inl x0, .inl x1] n μ Q) (w : ∀ (x : Int) (n' : Nat) (ν : Mem), Q x n' ν → Wa G Y Z c0 s0 n' ν (pc + 3) L (.inl x :: st)) : Wa G Y Z c0 s0 n μ pc L (.inl x1 :: .inl x0 :: .inr a :: st) :=
  c_VI (Yc := Y_X11_its) (As := [.inl x0, .inl x1]) rfl hd (by rw [hY]; exact lm_X11_127) mc_X11_its mi_X11_its ms_X11_its hst (fits_of hf hc hs) cf_11.2.1 (by decide) ho h rfl rfl w
theorem lm_X11_131 : Cond.methodLink RX11 131 yX11_ticks ∈ gT := gT_mem (i := 1016) (by decide +kernel) (by decide +kernel)
theorem k_X11_131 {G : GT} {Y : MD} {Z : ZT} {c0 s0 n pc : Nat} {μ : Mem} {L : List (Nat × AV)} {st : List AV} {a : Int} {x0 x1 : Int} {Q : Int → Nat → Mem → Prop} (hY : Y.1.cls = RX11) (hd : decode Y.2.1 pc = .ok (.invokevirtual 131, 3)) (hst : st.length ≤ 8) (hf : fitsB Y Y_X11_ticks = true) (hc : c0 + 0 ≤ Y.2.2.2.2.2.2.1) (hs : s0 + 0 ≤ Y.2.2.2.2.2.2.2) (ho : gx G n μ → 0 ≤ a ∧ a < n ∧ SH a = (11, 28)) (h : CI G Y_X11_ticks [.inr a, .inl x0, .inl x1] n μ Q) (w : ∀ (x : Int) (n' : Nat) (ν : Mem), Q x n' ν → Wa G Y Z c0 s0 n' ν (pc + 3) L (.inl x :: st)) : Wa G Y Z c0 s0 n μ pc L (.inl x1 :: .inl x0 :: .inr a :: st) :=
  c_VI (Yc := Y_X11_ticks) (As := [.inl x0, .inl x1]) rfl hd (by rw [hY]; exact lm_X11_131) mc_X11_ticks mi_X11_ticks ms_X11_ticks hst (fits_of hf hc hs) cf_11.2.1 (by decide) ho h rfl rfl w
theorem lm_X11_134 : Cond.methodLink RX11 134 yX11_isOn ∈ gT := gT_mem (i := 1004) (by decide +kernel) (by decide +kernel)
theorem k_X11_134 {G : GT} {Y : MD} {Z : ZT} {c0 s0 n pc : Nat} {μ : Mem} {L : List (Nat × AV)} {st : List AV} {a : Int} {x0 : Int} {Q : Int → Nat → Mem → Prop} (hY : Y.1.cls = RX11) (hd : decode Y.2.1 pc = .ok (.invokevirtual 134, 3)) (hst : st.length ≤ 8) (hf : fitsB Y Y_X11_isOn = true) (hc : c0 + 0 ≤ Y.2.2.2.2.2.2.1) (hs : s0 + 0 ≤ Y.2.2.2.2.2.2.2) (ho : gx G n μ → 0 ≤ a ∧ a < n ∧ SH a = (11, 28)) (h : CI G Y_X11_isOn [.inr a, .inl x0] n μ Q) (w : ∀ (x : Int) (n' : Nat) (ν : Mem), Q x n' ν → Wa G Y Z c0 s0 n' ν (pc + 3) L (.inl x :: st)) : Wa G Y Z c0 s0 n μ pc L (.inl x0 :: .inr a :: st) :=
  c_VI (Yc := Y_X11_isOn) (As := [.inl x0]) rfl hd (by rw [hY]; exact lm_X11_134) mc_X11_isOn mi_X11_isOn ms_X11_isOn hst (fits_of hf hc hs) cf_11.2.1 (by decide) ho h rfl rfl w
theorem lm_X11_137 : Cond.methodLink RX11 137 yX11_leads ∈ gT := gT_mem (i := 1008) (by decide +kernel) (by decide +kernel)
theorem k_X11_137 {G : GT} {Y : MD} {Z : ZT} {c0 s0 n pc : Nat} {μ : Mem} {L : List (Nat × AV)} {st : List AV} {a : Int} {x0 : Int} {Q : Int → Nat → Mem → Prop} (hY : Y.1.cls = RX11) (hd : decode Y.2.1 pc = .ok (.invokevirtual 137, 3)) (hst : st.length ≤ 8) (hf : fitsB Y Y_X11_leads = true) (hc : c0 + 0 ≤ Y.2.2.2.2.2.2.1) (hs : s0 + 0 ≤ Y.2.2.2.2.2.2.2) (ho : gx G n μ → 0 ≤ a ∧ a < n ∧ SH a = (11, 28)) (h : CI G Y_X11_leads [.inr a, .inl x0] n μ Q) (w : ∀ (x : Int) (n' : Nat) (ν : Mem), Q x n' ν → Wa G Y Z c0 s0 n' ν (pc + 3) L (.inl x :: st)) : Wa G Y Z c0 s0 n μ pc L (.inl x0 :: .inr a :: st) :=
  c_VI (Yc := Y_X11_leads) (As := [.inl x0]) rfl hd (by rw [hY]; exact lm_X11_137) mc_X11_leads mi_X11_leads ms_X11_leads hst (fits_of hf hc hs) cf_11.2.1 (by decide) ho h rfl rfl w
theorem lm_X11_140 : Cond.methodLink RX11 140 yX11_stateOf ∈ gT := gT_mem (i := 1000) (by decide +kernel) (by decide +kernel)
theorem k_X11_140 {G : GT} {Y : MD} {Z : ZT} {c0 s0 n pc : Nat} {μ : Mem} {L : List (Nat × AV)} {st : List AV} {a : Int} {x0 : Int} {Q : Int → Nat → Mem → Prop} (hY : Y.1.cls = RX11) (hd : decode Y.2.1 pc = .ok (.invokevirtual 140, 3)) (hst : st.length ≤ 8) (hf : fitsB Y Y_X11_stateOf = true) (hc : c0 + 0 ≤ Y.2.2.2.2.2.2.1) (hs : s0 + 0 ≤ Y.2.2.2.2.2.2.2) (ho : gx G n μ → 0 ≤ a ∧ a < n ∧ SH a = (11, 28)) (h : CI G Y_X11_stateOf [.inr a, .inl x0] n μ Q) (w : ∀ (x : Int) (n' : Nat) (ν : Mem), Q x n' ν → Wa G Y Z c0 s0 n' ν (pc + 3) L (.inl x :: st)) : Wa G Y Z c0 s0 n μ pc L (.inl x0 :: .inr a :: st) :=
  c_VI (Yc := Y_X11_stateOf) (As := [.inl x0]) rfl hd (by rw [hY]; exact lm_X11_140) mc_X11_stateOf mi_X11_stateOf ms_X11_stateOf hst (fits_of hf hc hs) cf_11.2.1 (by decide) ho h rfl rfl w
theorem lm_X11_143 : Cond.methodLink RX11 143 yX11_marks ∈ gT := gT_mem (i := 1024) (by decide +kernel) (by decide +kernel)
theorem k_X11_143 {G : GT} {Y : MD} {Z : ZT} {c0 s0 n pc : Nat} {μ : Mem} {L : List (Nat × AV)} {st : List AV} {a : Int} {x0 x1 x2 : Int} {Q : Nat → Mem → Prop} (hY : Y.1.cls = RX11) (hd : decode Y.2.1 pc = .ok (.invokevirtual 143, 3)) (hst : st.length ≤ 8) (hf : fitsB Y Y_X11_marks = true) (hc : c0 + 0 ≤ Y.2.2.2.2.2.2.1) (hs : s0 + 0 ≤ Y.2.2.2.2.2.2.2) (ho : gx G n μ → 0 ≤ a ∧ a < n ∧ SH a = (11, 28)) (h : CV G Y_X11_marks [.inr a, .inl x0, .inl x1, .inl x2] n μ Q) (w : ∀ (n' : Nat) (ν : Mem), Q n' ν → Wa G Y Z c0 s0 n' ν (pc + 3) L st) : Wa G Y Z c0 s0 n μ pc L (.inl x2 :: .inl x1 :: .inl x0 :: .inr a :: st) :=
  c_VV (Yc := Y_X11_marks) (As := [.inl x0, .inl x1, .inl x2]) rfl hd (by rw [hY]; exact lm_X11_143) mc_X11_marks mi_X11_marks ms_X11_marks hst (fits_of hf hc hs) cf_11.2.1 (by decide) ho h rfl rfl w
theorem lm_X11_147 : Cond.methodLink RX11 147 yX11_beginsAt ∈ gT := gT_mem (i := 1040) (by decide +kernel) (by decide +kernel)
theorem k_X11_147 {G : GT} {Y : MD} {Z : ZT} {c0 s0 n pc : Nat} {μ : Mem} {L : List (Nat × AV)} {st : List AV} {a : Int} {x0 x1 x2 : Int} {Q : Int → Nat → Mem → Prop} (hY : Y.1.cls = RX11) (hd : decode Y.2.1 pc = .ok (.invokevirtual 147, 3)) (hst : st.length ≤ 8) (hf : fitsB Y Y_X11_beginsAt = true) (hc : c0 + 0 ≤ Y.2.2.2.2.2.2.1) (hs : s0 + 0 ≤ Y.2.2.2.2.2.2.2) (ho : gx G n μ → 0 ≤ a ∧ a < n ∧ SH a = (11, 28)) (h : CI G Y_X11_beginsAt [.inr a, .inl x0, .inl x1, .inl x2] n μ Q) (w : ∀ (x : Int) (n' : Nat) (ν : Mem), Q x n' ν → Wa G Y Z c0 s0 n' ν (pc + 3) L (.inl x :: st)) : Wa G Y Z c0 s0 n μ pc L (.inl x2 :: .inl x1 :: .inl x0 :: .inr a :: st) :=
  c_VI (Yc := Y_X11_beginsAt) (As := [.inl x0, .inl x1, .inl x2]) rfl hd (by rw [hY]; exact lm_X11_147) mc_X11_beginsAt mi_X11_beginsAt ms_X11_beginsAt hst (fits_of hf hc hs) cf_11.2.1 (by decide) ho h rfl rfl w
theorem lm_X11_151 : Cond.methodLink RX11 151 yX11_endsAt ∈ gT := gT_mem (i := 1036) (by decide +kernel) (by decide +kernel)
theorem k_X11_151 {G : GT} {Y : MD} {Z : ZT} {c0 s0 n pc : Nat} {μ : Mem} {L : List (Nat × AV)} {st : List AV} {a : Int} {x0 x1 x2 : Int} {Q : Int → Nat → Mem → Prop} (hY : Y.1.cls = RX11) (hd : decode Y.2.1 pc = .ok (.invokevirtual 151, 3)) (hst : st.length ≤ 8) (hf : fitsB Y Y_X11_endsAt = true) (hc : c0 + 0 ≤ Y.2.2.2.2.2.2.1) (hs : s0 + 0 ≤ Y.2.2.2.2.2.2.2) (ho : gx G n μ → 0 ≤ a ∧ a < n ∧ SH a = (11, 28)) (h : CI G Y_X11_endsAt [.inr a, .inl x0, .inl x1, .inl x2] n μ Q) (w : ∀ (x : Int) (n' : Nat) (ν : Mem), Q x n' ν → Wa G Y Z c0 s0 n' ν (pc + 3) L (.inl x :: st)) : Wa G Y Z c0 s0 n μ pc L (.inl x2 :: .inl x1 :: .inl x0 :: .inr a :: st) :=
  c_VI (Yc := Y_X11_endsAt) (As := [.inl x0, .inl x1, .inl x2]) rfl hd (by rw [hY]; exact lm_X11_151) mc_X11_endsAt mi_X11_endsAt ms_X11_endsAt hst (fits_of hf hc hs) cf_11.2.1 (by decide) ho h rfl rfl w
theorem lm_X11_154 : Cond.methodLink RX11 154 yX11_laysFirst ∈ gT := gT_mem (i := 1032) (by decide +kernel) (by decide +kernel)
theorem k_X11_154 {G : GT} {Y : MD} {Z : ZT} {c0 s0 n pc : Nat} {μ : Mem} {L : List (Nat × AV)} {st : List AV} {a : Int} {x0 x1 x2 x3 x4 : Int} {Q : Nat → Mem → Prop} (hY : Y.1.cls = RX11) (hd : decode Y.2.1 pc = .ok (.invokevirtual 154, 3)) (hst : st.length ≤ 8) (hf : fitsB Y Y_X11_laysFirst = true) (hc : c0 + 0 ≤ Y.2.2.2.2.2.2.1) (hs : s0 + 0 ≤ Y.2.2.2.2.2.2.2) (ho : gx G n μ → 0 ≤ a ∧ a < n ∧ SH a = (11, 28)) (h : CV G Y_X11_laysFirst [.inr a, .inl x0, .inl x1, .inl x2, .inl x3, .inl x4] n μ Q) (w : ∀ (n' : Nat) (ν : Mem), Q n' ν → Wa G Y Z c0 s0 n' ν (pc + 3) L st) : Wa G Y Z c0 s0 n μ pc L (.inl x4 :: .inl x3 :: .inl x2 :: .inl x1 :: .inl x0 :: .inr a :: st) :=
  c_VV (Yc := Y_X11_laysFirst) (As := [.inl x0, .inl x1, .inl x2, .inl x3, .inl x4]) rfl hd (by rw [hY]; exact lm_X11_154) mc_X11_laysFirst mi_X11_laysFirst ms_X11_laysFirst hst (fits_of hf hc hs) cf_11.2.1 (by decide) ho h rfl rfl w
theorem lm_X11_164 : Cond.methodLink RX11 164 yX11_leadsThere ∈ gT := gT_mem (i := 1048) (by decide +kernel) (by decide +kernel)
theorem k_X11_164 {G : GT} {Y : MD} {Z : ZT} {c0 s0 n pc : Nat} {μ : Mem} {L : List (Nat × AV)} {st : List AV} {a : Int} {x0 x1 x2 x3 x4 x5 : Int} {Q : Int → Nat → Mem → Prop} (hY : Y.1.cls = RX11) (hd : decode Y.2.1 pc = .ok (.invokevirtual 164, 3)) (hst : st.length ≤ 8) (hf : fitsB Y Y_X11_leadsThere = true) (hc : c0 + 0 ≤ Y.2.2.2.2.2.2.1) (hs : s0 + 0 ≤ Y.2.2.2.2.2.2.2) (ho : gx G n μ → 0 ≤ a ∧ a < n ∧ SH a = (11, 28)) (h : CI G Y_X11_leadsThere [.inr a, .inl x0, .inl x1, .inl x2, .inl x3, .inl x4, .inl x5] n μ Q) (w : ∀ (x : Int) (n' : Nat) (ν : Mem), Q x n' ν → Wa G Y Z c0 s0 n' ν (pc + 3) L (.inl x :: st)) : Wa G Y Z c0 s0 n μ pc L (.inl x5 :: .inl x4 :: .inl x3 :: .inl x2 :: .inl x1 :: .inl x0 :: .inr a :: st) :=
  c_VI (Yc := Y_X11_leadsThere) (As := [.inl x0, .inl x1, .inl x2, .inl x3, .inl x4, .inl x5]) rfl hd (by rw [hY]; exact lm_X11_164) mc_X11_leadsThere mi_X11_leadsThere ms_X11_leadsThere hst (fits_of hf hc hs) cf_11.2.1 (by decide) ho h rfl rfl w
theorem lm_X11_168 : Cond.methodLink RX11 168 yX11_meets ∈ gT := gT_mem (i := 1056) (by decide +kernel) (by decide +kernel)
theorem k_X11_168 {G : GT} {Y : MD} {Z : ZT} {c0 s0 n pc : Nat} {μ : Mem} {L : List (Nat × AV)} {st : List AV} {a : Int} {x0 x1 x2 x3 : Int} {Q : Int → Nat → Mem → Prop} (hY : Y.1.cls = RX11) (hd : decode Y.2.1 pc = .ok (.invokevirtual 168, 3)) (hst : st.length ≤ 8) (hf : fitsB Y Y_X11_meets = true) (hc : c0 + 0 ≤ Y.2.2.2.2.2.2.1) (hs : s0 + 0 ≤ Y.2.2.2.2.2.2.2) (ho : gx G n μ → 0 ≤ a ∧ a < n ∧ SH a = (11, 28)) (h : CI G Y_X11_meets [.inr a, .inl x0, .inl x1, .inl x2, .inl x3] n μ Q) (w : ∀ (x : Int) (n' : Nat) (ν : Mem), Q x n' ν → Wa G Y Z c0 s0 n' ν (pc + 3) L (.inl x :: st)) : Wa G Y Z c0 s0 n μ pc L (.inl x3 :: .inl x2 :: .inl x1 :: .inl x0 :: .inr a :: st) :=
  c_VI (Yc := Y_X11_meets) (As := [.inl x0, .inl x1, .inl x2, .inl x3]) rfl hd (by rw [hY]; exact lm_X11_168) mc_X11_meets mi_X11_meets ms_X11_meets hst (fits_of hf hc hs) cf_11.2.1 (by decide) ho h rfl rfl w
theorem lm_X11_172 : Cond.methodLink RX11 172 yX11_has ∈ gT := gT_mem (i := 985) (by decide +kernel) (by decide +kernel)
theorem k_X11_172 {G : GT} {Y : MD} {Z : ZT} {c0 s0 n pc : Nat} {μ : Mem} {L : List (Nat × AV)} {st : List AV} {x0 x1 : Int} {Q : Int → Nat → Mem → Prop} (hY : Y.1.cls = RX11) (hd : decode Y.2.1 pc = .ok (.invokestatic 172, 3)) (hst : st.length ≤ 8) (hf : fitsB Y Y_X11_has = true) (hc : c0 + 0 ≤ Y.2.2.2.2.2.2.1) (hs : s0 + 0 ≤ Y.2.2.2.2.2.2.2) (h : CI G Y_X11_has [.inl x0, .inl x1] n μ Q) (w : ∀ (x : Int) (n' : Nat) (ν : Mem), Q x n' ν → Wa G Y Z c0 s0 n' ν (pc + 3) L (.inl x :: st)) : Wa G Y Z c0 s0 n μ pc L (.inl x1 :: .inl x0 :: st) :=
  c_SI (Yc := Y_X11_has) (As := [.inl x0, .inl x1]) rfl hd (by rw [hY]; exact lm_X11_172) mc_X11_has mt_X11_has hst (fits_of hf hc hs) h rfl rfl w
theorem lm_X11_176 : Cond.methodLink RX11 176 yX11_givesUp ∈ gT := gT_mem (i := 996) (by decide +kernel) (by decide +kernel)
theorem k_X11_176 {G : GT} {Y : MD} {Z : ZT} {c0 s0 n pc : Nat} {μ : Mem} {L : List (Nat × AV)} {st : List AV} {a : Int} {x0 : Int} {Q : Nat → Mem → Prop} (hY : Y.1.cls = RX11) (hd : decode Y.2.1 pc = .ok (.invokevirtual 176, 3)) (hst : st.length ≤ 8) (hf : fitsB Y Y_X11_givesUp = true) (hc : c0 + 0 ≤ Y.2.2.2.2.2.2.1) (hs : s0 + 0 ≤ Y.2.2.2.2.2.2.2) (ho : gx G n μ → 0 ≤ a ∧ a < n ∧ SH a = (11, 28)) (h : CV G Y_X11_givesUp [.inr a, .inl x0] n μ Q) (w : ∀ (n' : Nat) (ν : Mem), Q n' ν → Wa G Y Z c0 s0 n' ν (pc + 3) L st) : Wa G Y Z c0 s0 n μ pc L (.inl x0 :: .inr a :: st) :=
  c_VV (Yc := Y_X11_givesUp) (As := [.inl x0]) rfl hd (by rw [hY]; exact lm_X11_176) mc_X11_givesUp mi_X11_givesUp ms_X11_givesUp hst (fits_of hf hc hs) cf_11.2.1 (by decide) ho h rfl rfl w
theorem lm_X11_180 : Cond.methodLink RX11 180 yX11_arrival ∈ gT := gT_mem (i := 1012) (by decide +kernel) (by decide +kernel)
theorem k_X11_180 {G : GT} {Y : MD} {Z : ZT} {c0 s0 n pc : Nat} {μ : Mem} {L : List (Nat × AV)} {st : List AV} {a : Int} {x0 x1 x2 : Int} {Q : Int → Nat → Mem → Prop} (hY : Y.1.cls = RX11) (hd : decode Y.2.1 pc = .ok (.invokevirtual 180, 3)) (hst : st.length ≤ 8) (hf : fitsB Y Y_X11_arrival = true) (hc : c0 + 0 ≤ Y.2.2.2.2.2.2.1) (hs : s0 + 0 ≤ Y.2.2.2.2.2.2.2) (ho : gx G n μ → 0 ≤ a ∧ a < n ∧ SH a = (11, 28)) (h : CI G Y_X11_arrival [.inr a, .inl x0, .inl x1, .inl x2] n μ Q) (w : ∀ (x : Int) (n' : Nat) (ν : Mem), Q x n' ν → Wa G Y Z c0 s0 n' ν (pc + 3) L (.inl x :: st)) : Wa G Y Z c0 s0 n μ pc L (.inl x2 :: .inl x1 :: .inl x0 :: .inr a :: st) :=
  c_VI (Yc := Y_X11_arrival) (As := [.inl x0, .inl x1, .inl x2]) rfl hd (by rw [hY]; exact lm_X11_180) mc_X11_arrival mi_X11_arrival ms_X11_arrival hst (fits_of hf hc hs) cf_11.2.1 (by decide) ho h rfl rfl w
theorem lm_X11_183 : Cond.methodLink RX11 183 yX11_laysTaken ∈ gT := gT_mem (i := 1020) (by decide +kernel) (by decide +kernel)
theorem k_X11_183 {G : GT} {Y : MD} {Z : ZT} {c0 s0 n pc : Nat} {μ : Mem} {L : List (Nat × AV)} {st : List AV} {a : Int} {x0 x1 : Int} {Q : Nat → Mem → Prop} (hY : Y.1.cls = RX11) (hd : decode Y.2.1 pc = .ok (.invokevirtual 183, 3)) (hst : st.length ≤ 8) (hf : fitsB Y Y_X11_laysTaken = true) (hc : c0 + 0 ≤ Y.2.2.2.2.2.2.1) (hs : s0 + 0 ≤ Y.2.2.2.2.2.2.2) (ho : gx G n μ → 0 ≤ a ∧ a < n ∧ SH a = (11, 28)) (h : CV G Y_X11_laysTaken [.inr a, .inl x0, .inl x1] n μ Q) (w : ∀ (n' : Nat) (ν : Mem), Q n' ν → Wa G Y Z c0 s0 n' ν (pc + 3) L st) : Wa G Y Z c0 s0 n μ pc L (.inl x1 :: .inl x0 :: .inr a :: st) :=
  c_VV (Yc := Y_X11_laysTaken) (As := [.inl x0, .inl x1]) rfl hd (by rw [hY]; exact lm_X11_183) mc_X11_laysTaken mi_X11_laysTaken ms_X11_laysTaken hst (fits_of hf hc hs) cf_11.2.1 (by decide) ho h rfl rfl w
theorem lm_X11_187 : Cond.methodLink RX11 187 yX11_findsEnd ∈ gT := gT_mem (i := 1028) (by decide +kernel) (by decide +kernel)
theorem k_X11_187 {G : GT} {Y : MD} {Z : ZT} {c0 s0 n pc : Nat} {μ : Mem} {L : List (Nat × AV)} {st : List AV} {a : Int} {x0 x1 x2 x3 x4 : Int} {Q : Int → Nat → Mem → Prop} (hY : Y.1.cls = RX11) (hd : decode Y.2.1 pc = .ok (.invokevirtual 187, 3)) (hst : st.length ≤ 8) (hf : fitsB Y Y_X11_findsEnd = true) (hc : c0 + 0 ≤ Y.2.2.2.2.2.2.1) (hs : s0 + 0 ≤ Y.2.2.2.2.2.2.2) (ho : gx G n μ → 0 ≤ a ∧ a < n ∧ SH a = (11, 28)) (h : CI G Y_X11_findsEnd [.inr a, .inl x0, .inl x1, .inl x2, .inl x3, .inl x4] n μ Q) (w : ∀ (x : Int) (n' : Nat) (ν : Mem), Q x n' ν → Wa G Y Z c0 s0 n' ν (pc + 3) L (.inl x :: st)) : Wa G Y Z c0 s0 n μ pc L (.inl x4 :: .inl x3 :: .inl x2 :: .inl x1 :: .inl x0 :: .inr a :: st) :=
  c_VI (Yc := Y_X11_findsEnd) (As := [.inl x0, .inl x1, .inl x2, .inl x3, .inl x4]) rfl hd (by rw [hY]; exact lm_X11_187) mc_X11_findsEnd mi_X11_findsEnd ms_X11_findsEnd hst (fits_of hf hc hs) cf_11.2.1 (by decide) ho h rfl rfl w
theorem lm_X11_191 : Cond.methodLink RX11 191 yX11_findsWay ∈ gT := gT_mem (i := 1044) (by decide +kernel) (by decide +kernel)
theorem k_X11_191 {G : GT} {Y : MD} {Z : ZT} {c0 s0 n pc : Nat} {μ : Mem} {L : List (Nat × AV)} {st : List AV} {a : Int} {x0 x1 x2 x3 : Int} {Q : Nat → Mem → Prop} (hY : Y.1.cls = RX11) (hd : decode Y.2.1 pc = .ok (.invokevirtual 191, 3)) (hst : st.length ≤ 8) (hf : fitsB Y Y_X11_findsWay = true) (hc : c0 + 0 ≤ Y.2.2.2.2.2.2.1) (hs : s0 + 0 ≤ Y.2.2.2.2.2.2.2) (ho : gx G n μ → 0 ≤ a ∧ a < n ∧ SH a = (11, 28)) (h : CV G Y_X11_findsWay [.inr a, .inl x0, .inl x1, .inl x2, .inl x3] n μ Q) (w : ∀ (n' : Nat) (ν : Mem), Q n' ν → Wa G Y Z c0 s0 n' ν (pc + 3) L st) : Wa G Y Z c0 s0 n μ pc L (.inl x3 :: .inl x2 :: .inl x1 :: .inl x0 :: .inr a :: st) :=
  c_VV (Yc := Y_X11_findsWay) (As := [.inl x0, .inl x1, .inl x2, .inl x3]) rfl hd (by rw [hY]; exact lm_X11_191) mc_X11_findsWay mi_X11_findsWay ms_X11_findsWay hst (fits_of hf hc hs) cf_11.2.1 (by decide) ho h rfl rfl w
theorem lm_X11_195 : Cond.methodLink RX11 195 yX11_pushesOut ∈ gT := gT_mem (i := 1052) (by decide +kernel) (by decide +kernel)
theorem k_X11_195 {G : GT} {Y : MD} {Z : ZT} {c0 s0 n pc : Nat} {μ : Mem} {L : List (Nat × AV)} {st : List AV} {a : Int} {x0 : Int} {Q : Int → Nat → Mem → Prop} (hY : Y.1.cls = RX11) (hd : decode Y.2.1 pc = .ok (.invokevirtual 195, 3)) (hst : st.length ≤ 8) (hf : fitsB Y Y_X11_pushesOut = true) (hc : c0 + 0 ≤ Y.2.2.2.2.2.2.1) (hs : s0 + 0 ≤ Y.2.2.2.2.2.2.2) (ho : gx G n μ → 0 ≤ a ∧ a < n ∧ SH a = (11, 28)) (h : CI G Y_X11_pushesOut [.inr a, .inl x0] n μ Q) (w : ∀ (x : Int) (n' : Nat) (ν : Mem), Q x n' ν → Wa G Y Z c0 s0 n' ν (pc + 3) L (.inl x :: st)) : Wa G Y Z c0 s0 n μ pc L (.inl x0 :: .inr a :: st) :=
  c_VI (Yc := Y_X11_pushesOut) (As := [.inl x0]) rfl hd (by rw [hY]; exact lm_X11_195) mc_X11_pushesOut mi_X11_pushesOut ms_X11_pushesOut hst (fits_of hf hc hs) cf_11.2.1 (by decide) ho h rfl rfl w
theorem lm_X11_198 : Cond.methodLink RX11 198 yX11_plans ∈ gT := gT_mem (i := 992) (by decide +kernel) (by decide +kernel)
theorem k_X11_198 {G : GT} {Y : MD} {Z : ZT} {c0 s0 n pc : Nat} {μ : Mem} {L : List (Nat × AV)} {st : List AV} {a : Int} {x0 : Int} {Q : Int → Nat → Mem → Prop} (hY : Y.1.cls = RX11) (hd : decode Y.2.1 pc = .ok (.invokevirtual 198, 3)) (hst : st.length ≤ 8) (hf : fitsB Y Y_X11_plans = true) (hc : c0 + 0 ≤ Y.2.2.2.2.2.2.1) (hs : s0 + 0 ≤ Y.2.2.2.2.2.2.2) (ho : gx G n μ → 0 ≤ a ∧ a < n ∧ SH a = (11, 28)) (h : CI G Y_X11_plans [.inr a, .inl x0] n μ Q) (w : ∀ (x : Int) (n' : Nat) (ν : Mem), Q x n' ν → Wa G Y Z c0 s0 n' ν (pc + 3) L (.inl x :: st)) : Wa G Y Z c0 s0 n μ pc L (.inl x0 :: .inr a :: st) :=
  c_VI (Yc := Y_X11_plans) (As := [.inl x0]) rfl hd (by rw [hY]; exact lm_X11_198) mc_X11_plans mi_X11_plans ms_X11_plans hst (fits_of hf hc hs) cf_11.2.1 (by decide) ho h rfl rfl w
theorem lm_X11_201 : Cond.methodLink RX11 201 yX11_copies ∈ gT := gT_mem (i := 974) (by decide +kernel) (by decide +kernel)
theorem k_X11_201 {G : GT} {Y : MD} {Z : ZT} {c0 s0 n pc : Nat} {μ : Mem} {L : List (Nat × AV)} {st : List AV} {a : Int} {x0 x1 x2 x3 : Int} {Q : Nat → Mem → Prop} (hY : Y.1.cls = RX11) (hd : decode Y.2.1 pc = .ok (.invokevirtual 201, 3)) (hst : st.length ≤ 8) (hf : fitsB Y Y_X11_copies = true) (hc : c0 + 0 ≤ Y.2.2.2.2.2.2.1) (hs : s0 + 0 ≤ Y.2.2.2.2.2.2.2) (ho : gx G n μ → 0 ≤ a ∧ a < n ∧ SH a = (11, 28)) (h : CV G Y_X11_copies [.inr a, .inr x0, .inr x1, .inl x2, .inl x3] n μ Q) (w : ∀ (n' : Nat) (ν : Mem), Q n' ν → Wa G Y Z c0 s0 n' ν (pc + 3) L st) : Wa G Y Z c0 s0 n μ pc L (.inl x3 :: .inl x2 :: .inr x1 :: .inr x0 :: .inr a :: st) :=
  c_VV (Yc := Y_X11_copies) (As := [.inr x0, .inr x1, .inl x2, .inl x3]) rfl hd (by rw [hY]; exact lm_X11_201) mc_X11_copies mi_X11_copies ms_X11_copies hst (fits_of hf hc hs) cf_11.2.1 (by decide) ho h rfl rfl w
theorem lm_X11_205 : Cond.methodLink RX11 205 yX11_isNode ∈ gT := gT_mem (i := 966) (by decide +kernel) (by decide +kernel)
theorem k_X11_205 {G : GT} {Y : MD} {Z : ZT} {c0 s0 n pc : Nat} {μ : Mem} {L : List (Nat × AV)} {st : List AV} {a : Int} {x0 : Int} {Q : Int → Nat → Mem → Prop} (hY : Y.1.cls = RX11) (hd : decode Y.2.1 pc = .ok (.invokevirtual 205, 3)) (hst : st.length ≤ 8) (hf : fitsB Y Y_X11_isNode = true) (hc : c0 + 0 ≤ Y.2.2.2.2.2.2.1) (hs : s0 + 0 ≤ Y.2.2.2.2.2.2.2) (ho : gx G n μ → 0 ≤ a ∧ a < n ∧ SH a = (11, 28)) (h : CI G Y_X11_isNode [.inr a, .inl x0] n μ Q) (w : ∀ (x : Int) (n' : Nat) (ν : Mem), Q x n' ν → Wa G Y Z c0 s0 n' ν (pc + 3) L (.inl x :: st)) : Wa G Y Z c0 s0 n μ pc L (.inl x0 :: .inr a :: st) :=
  c_VI (Yc := Y_X11_isNode) (As := [.inl x0]) rfl hd (by rw [hY]; exact lm_X11_205) mc_X11_isNode mi_X11_isNode ms_X11_isNode hst (fits_of hf hc hs) cf_11.2.1 (by decide) ho h rfl rfl w
theorem lm_X11_208 : Cond.methodLink RX11 208 yX11_notes ∈ gT := gT_mem (i := 970) (by decide +kernel) (by decide +kernel)
theorem k_X11_208 {G : GT} {Y : MD} {Z : ZT} {c0 s0 n pc : Nat} {μ : Mem} {L : List (Nat × AV)} {st : List AV} {a : Int} {Q : Nat → Mem → Prop} (hY : Y.1.cls = RX11) (hd : decode Y.2.1 pc = .ok (.invokevirtual 208, 3)) (hst : st.length ≤ 8) (hf : fitsB Y Y_X11_notes = true) (hc : c0 + 0 ≤ Y.2.2.2.2.2.2.1) (hs : s0 + 0 ≤ Y.2.2.2.2.2.2.2) (ho : gx G n μ → 0 ≤ a ∧ a < n ∧ SH a = (11, 28)) (h : CV G Y_X11_notes [.inr a] n μ Q) (w : ∀ (n' : Nat) (ν : Mem), Q n' ν → Wa G Y Z c0 s0 n' ν (pc + 3) L st) : Wa G Y Z c0 s0 n μ pc L (.inr a :: st) :=
  c_VV (Yc := Y_X11_notes) (As := []) rfl hd (by rw [hY]; exact lm_X11_208) mc_X11_notes mi_X11_notes ms_X11_notes hst (fits_of hf hc hs) cf_11.2.1 (by decide) ho h rfl rfl w
theorem lm_X11_211 : Cond.methodLink RX11 211 yX11_plansAll ∈ gT := gT_mem (i := 981) (by decide +kernel) (by decide +kernel)
theorem k_X11_211 {G : GT} {Y : MD} {Z : ZT} {c0 s0 n pc : Nat} {μ : Mem} {L : List (Nat × AV)} {st : List AV} {a : Int} {x0 : Int} {Q : Nat → Mem → Prop} (hY : Y.1.cls = RX11) (hd : decode Y.2.1 pc = .ok (.invokevirtual 211, 3)) (hst : st.length ≤ 8) (hf : fitsB Y Y_X11_plansAll = true) (hc : c0 + 0 ≤ Y.2.2.2.2.2.2.1) (hs : s0 + 0 ≤ Y.2.2.2.2.2.2.2) (ho : gx G n μ → 0 ≤ a ∧ a < n ∧ SH a = (11, 28)) (h : CV G Y_X11_plansAll [.inr a, .inl x0] n μ Q) (w : ∀ (n' : Nat) (ν : Mem), Q n' ν → Wa G Y Z c0 s0 n' ν (pc + 3) L st) : Wa G Y Z c0 s0 n μ pc L (.inl x0 :: .inr a :: st) :=
  c_VV (Yc := Y_X11_plansAll) (As := [.inl x0]) rfl hd (by rw [hY]; exact lm_X11_211) mc_X11_plansAll mi_X11_plansAll ms_X11_plansAll hst (fits_of hf hc hs) cf_11.2.1 (by decide) ho h rfl rfl w
theorem lm_X11_214 : Cond.methodLink RX11 214 yX11_lastEnd ∈ gT := gT_mem (i := 1060) (by decide +kernel) (by decide +kernel)
theorem k_X11_214 {G : GT} {Y : MD} {Z : ZT} {c0 s0 n pc : Nat} {μ : Mem} {L : List (Nat × AV)} {st : List AV} {a : Int} {x0 : Int} {Q : Int → Nat → Mem → Prop} (hY : Y.1.cls = RX11) (hd : decode Y.2.1 pc = .ok (.invokevirtual 214, 3)) (hst : st.length ≤ 8) (hf : fitsB Y Y_X11_lastEnd = true) (hc : c0 + 0 ≤ Y.2.2.2.2.2.2.1) (hs : s0 + 0 ≤ Y.2.2.2.2.2.2.2) (ho : gx G n μ → 0 ≤ a ∧ a < n ∧ SH a = (11, 28)) (h : CI G Y_X11_lastEnd [.inr a, .inl x0] n μ Q) (w : ∀ (x : Int) (n' : Nat) (ν : Mem), Q x n' ν → Wa G Y Z c0 s0 n' ν (pc + 3) L (.inl x :: st)) : Wa G Y Z c0 s0 n μ pc L (.inl x0 :: .inr a :: st) :=
  c_VI (Yc := Y_X11_lastEnd) (As := [.inl x0]) rfl hd (by rw [hY]; exact lm_X11_214) mc_X11_lastEnd mi_X11_lastEnd ms_X11_lastEnd hst (fits_of hf hc hs) cf_11.2.1 (by decide) ho h rfl rfl w
theorem lm_X11_217 : Cond.methodLink RX11 217 yX11_isBundle ∈ gT := gT_mem (i := 1068) (by decide +kernel) (by decide +kernel)
theorem k_X11_217 {G : GT} {Y : MD} {Z : ZT} {c0 s0 n pc : Nat} {μ : Mem} {L : List (Nat × AV)} {st : List AV} {a : Int} {x0 : Int} {Q : Int → Nat → Mem → Prop} (hY : Y.1.cls = RX11) (hd : decode Y.2.1 pc = .ok (.invokevirtual 217, 3)) (hst : st.length ≤ 8) (hf : fitsB Y Y_X11_isBundle = true) (hc : c0 + 0 ≤ Y.2.2.2.2.2.2.1) (hs : s0 + 0 ≤ Y.2.2.2.2.2.2.2) (ho : gx G n μ → 0 ≤ a ∧ a < n ∧ SH a = (11, 28)) (h : CI G Y_X11_isBundle [.inr a, .inl x0] n μ Q) (w : ∀ (x : Int) (n' : Nat) (ν : Mem), Q x n' ν → Wa G Y Z c0 s0 n' ν (pc + 3) L (.inl x :: st)) : Wa G Y Z c0 s0 n μ pc L (.inl x0 :: .inr a :: st) :=
  c_VI (Yc := Y_X11_isBundle) (As := [.inl x0]) rfl hd (by rw [hY]; exact lm_X11_217) mc_X11_isBundle mi_X11_isBundle ms_X11_isBundle hst (fits_of hf hc hs) cf_11.2.1 (by decide) ho h rfl rfl w
theorem lm_X11_220 : Cond.methodLink RX11 220 yX11_moves ∈ gT := gT_mem (i := 1076) (by decide +kernel) (by decide +kernel)
theorem k_X11_220 {G : GT} {Y : MD} {Z : ZT} {c0 s0 n pc : Nat} {μ : Mem} {L : List (Nat × AV)} {st : List AV} {a : Int} {x0 : Int} {Q : Nat → Mem → Prop} (hY : Y.1.cls = RX11) (hd : decode Y.2.1 pc = .ok (.invokevirtual 220, 3)) (hst : st.length ≤ 8) (hf : fitsB Y Y_X11_moves = true) (hc : c0 + 0 ≤ Y.2.2.2.2.2.2.1) (hs : s0 + 0 ≤ Y.2.2.2.2.2.2.2) (ho : gx G n μ → 0 ≤ a ∧ a < n ∧ SH a = (11, 28)) (h : CV G Y_X11_moves [.inr a, .inl x0] n μ Q) (w : ∀ (n' : Nat) (ν : Mem), Q n' ν → Wa G Y Z c0 s0 n' ν (pc + 3) L st) : Wa G Y Z c0 s0 n μ pc L (.inl x0 :: .inr a :: st) :=
  c_VV (Yc := Y_X11_moves) (As := [.inl x0]) rfl hd (by rw [hY]; exact lm_X11_220) mc_X11_moves mi_X11_moves ms_X11_moves hst (fits_of hf hc hs) cf_11.2.1 (by decide) ho h rfl rfl w
theorem lm_X11_223 : Cond.methodLink RX11 223 yX11_hasHopOn ∈ gT := gT_mem (i := 1088) (by decide +kernel) (by decide +kernel)
theorem k_X11_223 {G : GT} {Y : MD} {Z : ZT} {c0 s0 n pc : Nat} {μ : Mem} {L : List (Nat × AV)} {st : List AV} {a : Int} {x0 x1 : Int} {Q : Int → Nat → Mem → Prop} (hY : Y.1.cls = RX11) (hd : decode Y.2.1 pc = .ok (.invokevirtual 223, 3)) (hst : st.length ≤ 8) (hf : fitsB Y Y_X11_hasHopOn = true) (hc : c0 + 0 ≤ Y.2.2.2.2.2.2.1) (hs : s0 + 0 ≤ Y.2.2.2.2.2.2.2) (ho : gx G n μ → 0 ≤ a ∧ a < n ∧ SH a = (11, 28)) (h : CI G Y_X11_hasHopOn [.inr a, .inl x0, .inl x1] n μ Q) (w : ∀ (x : Int) (n' : Nat) (ν : Mem), Q x n' ν → Wa G Y Z c0 s0 n' ν (pc + 3) L (.inl x :: st)) : Wa G Y Z c0 s0 n μ pc L (.inl x1 :: .inl x0 :: .inr a :: st) :=
  c_VI (Yc := Y_X11_hasHopOn) (As := [.inl x0, .inl x1]) rfl hd (by rw [hY]; exact lm_X11_223) mc_X11_hasHopOn mi_X11_hasHopOn ms_X11_hasHopOn hst (fits_of hf hc hs) cf_11.2.1 (by decide) ho h rfl rfl w
theorem lm_X11_226 : Cond.methodLink RX11 226 yX11_loses ∈ gT := gT_mem (i := 1084) (by decide +kernel) (by decide +kernel)
theorem k_X11_226 {G : GT} {Y : MD} {Z : ZT} {c0 s0 n pc : Nat} {μ : Mem} {L : List (Nat × AV)} {st : List AV} {a : Int} {x0 : Int} {Q : Nat → Mem → Prop} (hY : Y.1.cls = RX11) (hd : decode Y.2.1 pc = .ok (.invokevirtual 226, 3)) (hst : st.length ≤ 8) (hf : fitsB Y Y_X11_loses = true) (hc : c0 + 0 ≤ Y.2.2.2.2.2.2.1) (hs : s0 + 0 ≤ Y.2.2.2.2.2.2.2) (ho : gx G n μ → 0 ≤ a ∧ a < n ∧ SH a = (11, 28)) (h : CV G Y_X11_loses [.inr a, .inl x0] n μ Q) (w : ∀ (n' : Nat) (ν : Mem), Q n' ν → Wa G Y Z c0 s0 n' ν (pc + 3) L st) : Wa G Y Z c0 s0 n μ pc L (.inl x0 :: .inr a :: st) :=
  c_VV (Yc := Y_X11_loses) (As := [.inl x0]) rfl hd (by rw [hY]; exact lm_X11_226) mc_X11_loses mi_X11_loses ms_X11_loses hst (fits_of hf hc hs) cf_11.2.1 (by decide) ho h rfl rfl w
theorem lm_X11_229 : Cond.methodLink RX11 229 yX11_countOf ∈ gT := gT_mem (i := 1092) (by decide +kernel) (by decide +kernel)
theorem k_X11_229 {G : GT} {Y : MD} {Z : ZT} {c0 s0 n pc : Nat} {μ : Mem} {L : List (Nat × AV)} {st : List AV} {a : Int} {x0 : Int} {Q : Int → Nat → Mem → Prop} (hY : Y.1.cls = RX11) (hd : decode Y.2.1 pc = .ok (.invokevirtual 229, 3)) (hst : st.length ≤ 8) (hf : fitsB Y Y_X11_countOf = true) (hc : c0 + 0 ≤ Y.2.2.2.2.2.2.1) (hs : s0 + 0 ≤ Y.2.2.2.2.2.2.2) (ho : gx G n μ → 0 ≤ a ∧ a < n ∧ SH a = (11, 28)) (h : CI G Y_X11_countOf [.inr a, .inl x0] n μ Q) (w : ∀ (x : Int) (n' : Nat) (ν : Mem), Q x n' ν → Wa G Y Z c0 s0 n' ν (pc + 3) L (.inl x :: st)) : Wa G Y Z c0 s0 n μ pc L (.inl x0 :: .inr a :: st) :=
  c_VI (Yc := Y_X11_countOf) (As := [.inl x0]) rfl hd (by rw [hY]; exact lm_X11_229) mc_X11_countOf mi_X11_countOf ms_X11_countOf hst (fits_of hf hc hs) cf_11.2.1 (by decide) ho h rfl rfl w
theorem lm_X11_232 : Cond.methodLink RX11 232 yX11_takesTick ∈ gT := gT_mem (i := 1116) (by decide +kernel) (by decide +kernel)
theorem k_X11_232 {G : GT} {Y : MD} {Z : ZT} {c0 s0 n pc : Nat} {μ : Mem} {L : List (Nat × AV)} {st : List AV} {a : Int} {x0 x1 x2 x3 : Int} {Q : Int → Nat → Mem → Prop} (hY : Y.1.cls = RX11) (hd : decode Y.2.1 pc = .ok (.invokevirtual 232, 3)) (hst : st.length ≤ 8) (hf : fitsB Y Y_X11_takesTick = true) (hc : c0 + 0 ≤ Y.2.2.2.2.2.2.1) (hs : s0 + 0 ≤ Y.2.2.2.2.2.2.2) (ho : gx G n μ → 0 ≤ a ∧ a < n ∧ SH a = (11, 28)) (h : CI G Y_X11_takesTick [.inr a, .inl x0, .inl x1, .inl x2, .inl x3] n μ Q) (w : ∀ (x : Int) (n' : Nat) (ν : Mem), Q x n' ν → Wa G Y Z c0 s0 n' ν (pc + 3) L (.inl x :: st)) : Wa G Y Z c0 s0 n μ pc L (.inl x3 :: .inl x2 :: .inl x1 :: .inl x0 :: .inr a :: st) :=
  c_VI (Yc := Y_X11_takesTick) (As := [.inl x0, .inl x1, .inl x2, .inl x3]) rfl hd (by rw [hY]; exact lm_X11_232) mc_X11_takesTick mi_X11_takesTick ms_X11_takesTick hst (fits_of hf hc hs) cf_11.2.1 (by decide) ho h rfl rfl w
theorem lm_X11_235 : Cond.methodLink RX11 235 yX11_askedOf ∈ gT := gT_mem (i := 1124) (by decide +kernel) (by decide +kernel)
theorem k_X11_235 {G : GT} {Y : MD} {Z : ZT} {c0 s0 n pc : Nat} {μ : Mem} {L : List (Nat × AV)} {st : List AV} {a : Int} {x0 x1 x2 x3 x4 : Int} {Q : Int → Nat → Mem → Prop} (hY : Y.1.cls = RX11) (hd : decode Y.2.1 pc = .ok (.invokevirtual 235, 3)) (hst : st.length ≤ 8) (hf : fitsB Y Y_X11_askedOf = true) (hc : c0 + 0 ≤ Y.2.2.2.2.2.2.1) (hs : s0 + 0 ≤ Y.2.2.2.2.2.2.2) (ho : gx G n μ → 0 ≤ a ∧ a < n ∧ SH a = (11, 28)) (h : CI G Y_X11_askedOf [.inr a, .inl x0, .inl x1, .inl x2, .inl x3, .inl x4] n μ Q) (w : ∀ (x : Int) (n' : Nat) (ν : Mem), Q x n' ν → Wa G Y Z c0 s0 n' ν (pc + 3) L (.inl x :: st)) : Wa G Y Z c0 s0 n μ pc L (.inl x4 :: .inl x3 :: .inl x2 :: .inl x1 :: .inl x0 :: .inr a :: st) :=
  c_VI (Yc := Y_X11_askedOf) (As := [.inl x0, .inl x1, .inl x2, .inl x3, .inl x4]) rfl hd (by rw [hY]; exact lm_X11_235) mc_X11_askedOf mi_X11_askedOf ms_X11_askedOf hst (fits_of hf hc hs) cf_11.2.1 (by decide) ho h rfl rfl w
end
section
-- a few more rows, for the blocks by program
section RowsF
variable {G : GT} {Y : MD} {Z : ZT} {c0 s0 n pc : Nat} {μ : Mem} {L : List (Nat × AV)} {st : List AV}
theorem a_top {x y : Int} (e : x = y) (w : Wa G Y Z c0 s0 n μ pc L (.inl y :: st)) : Wa G Y Z c0 s0 n μ pc L (.inl x :: st) := by
  subst e
  exact w
theorem a_alds22 {a i : Int} (hd : decode Y.2.1 pc = .ok (.aaload, 1)) (hg : gx G = FX) (hs : St a 22 8) (i0 : 0 ≤ i) (i1 : i < 8) (w : Wa G Y Z c0 s0 n μ (pc + 1) L (.inr (a + 1 + 3 * i) :: st)) : Wa G Y Z c0 s0 n μ pc L (.inl i :: .inr a :: st) :=
  a_fx (fun f => a_aaload (N := 8) (kd := 22) (t0 := 2) hd (by decide) rfl (St_ho hg hs) i0 i1 (by rw [hg] at f; rw [fx_22 f hs i0 i1]; exact w))
theorem a_alds24 {a i : Int} (hd : decode Y.2.1 pc = .ok (.aaload, 1)) (hg : gx G = FX) (hs : St a 24 8) (i0 : 0 ≤ i) (i1 : i < 8) (w : Wa G Y Z c0 s0 n μ (pc + 1) L (.inr (a + 1 + 29 * i) :: st)) : Wa G Y Z c0 s0 n μ pc L (.inl i :: .inr a :: st) :=
  a_fx (fun f => a_aaload (N := 8) (kd := 24) (t0 := 4) hd (by decide) rfl (St_ho hg hs) i0 i1 (by rw [hg] at f; rw [fx_24 f hs i0 i1]; exact w))
end RowsF
theorem fits_ex (d : Nat) : fitsB (Y_X6_explore (d + 1)) (Y_X6_explore d) = true := by
  unfold fitsB
  rw [Bool.and_eq_true]
  refine ⟨Nat.ble_eq.mpr ?_, Nat.ble_eq.mpr ?_⟩
  · show 4 + d + 1 ≤ 4 + (d + 1)
    omega
  · show 8 + (10 + 11) + (200 + 60 * d) ≤ 200 + 60 * (d + 1)
    omega
/-- the callees of explore that need little -/
theorem fits_exc {d : Nat} {Yc : MD} (h : Nat.ble (Yc.2.2.2.2.1 + 1) 4 = true) (h2 : Nat.ble (8 + (Yc.2.2.1 + 11) + Yc.2.2.2.2.2.1) 200 = true) : fitsB (Y_X6_explore (d + 1)) Yc = true := by
  have h := Nat.le_of_ble_eq_true h
  have h2 := Nat.le_of_ble_eq_true h2
  unfold fitsB
  rw [Bool.and_eq_true]
  refine ⟨Nat.ble_eq.mpr ?_, Nat.ble_eq.mpr ?_⟩
  · show _ ≤ 4 + (d + 1)
    omega
  · show _ ≤ 200 + 60 * (d + 1)
    omega
end
section
-- 080.tables: decode rows and blocks (by program, wip/gen)
theorem dX8_at_0 : decode cX8_at 0 = .ok (.iload_n 1, 1) := by decide +kernel
theorem dX8_at_1 : decode cX8_at 1 = .ok (.aload_n 0, 1) := by decide +kernel
theorem dX8_at_2 : decode cX8_at 2 = .ok (.getfield 9, 3) := by decide +kernel
theorem dX8_at_5 : decode cX8_at 5 = .ok (.imul, 1) := by decide +kernel
theorem dX8_at_6 : decode cX8_at 6 = .ok (.iload_n 2, 1) := by decide +kernel
theorem dX8_at_7 : decode cX8_at 7 = .ok (.iadd, 1) := by decide +kernel
theorem dX8_at_8 : decode cX8_at 8 = .ok (.istore_n 3, 1) := by decide +kernel
theorem dX8_at_9 : decode cX8_at 9 = .ok (.iload_n 1, 1) := by decide +kernel
theorem dX8_at_10 : decode cX8_at 10 = .ok (.ifCond .lt 36, 3) := by decide +kernel
theorem dX8_at_13 : decode cX8_at 13 = .ok (.iload_n 1, 1) := by decide +kernel
theorem dX8_at_14 : decode cX8_at 14 = .ok (.aload_n 0, 1) := by decide +kernel
theorem dX8_at_15 : decode cX8_at 15 = .ok (.getfield 25, 3) := by decide +kernel
theorem dX8_at_18 : decode cX8_at 18 = .ok (.if_icmp .ge 28, 3) := by decide +kernel
theorem dX8_at_21 : decode cX8_at 21 = .ok (.iload_n 2, 1) := by decide +kernel
theorem dX8_at_22 : decode cX8_at 22 = .ok (.ifCond .lt 24, 3) := by decide +kernel
theorem dX8_at_25 : decode cX8_at 25 = .ok (.iload_n 2, 1) := by decide +kernel
theorem dX8_at_26 : decode cX8_at 26 = .ok (.aload_n 0, 1) := by decide +kernel
theorem dX8_at_27 : decode cX8_at 27 = .ok (.getfield 9, 3) := by decide +kernel
theorem dX8_at_30 : decode cX8_at 30 = .ok (.if_icmp .ge 16, 3) := by decide +kernel
theorem dX8_at_33 : decode cX8_at 33 = .ok (.iload_n 3, 1) := by decide +kernel
theorem dX8_at_34 : decode cX8_at 34 = .ok (.ifCond .lt 12, 3) := by decide +kernel
theorem dX8_at_37 : decode cX8_at 37 = .ok (.iload_n 3, 1) := by decide +kernel
theorem dX8_at_38 : decode cX8_at 38 = .ok (.aload_n 0, 1) := by decide +kernel
theorem dX8_at_39 : decode cX8_at 39 = .ok (.getfield 21, 3) := by decide +kernel
theorem dX8_at_42 : decode cX8_at 42 = .ok (.arraylength, 1) := by decide +kernel
theorem dX8_at_43 : decode cX8_at 43 = .ok (.if_icmp .lt 6, 3) := by decide +kernel
theorem dX8_at_46 : decode cX8_at 46 = .ok (.bipush (-9), 2) := by decide +kernel
theorem dX8_at_48 : decode cX8_at 48 = .ok (.ireturn, 1) := by decide +kernel
theorem dX8_at_49 : decode cX8_at 49 = .ok (.aload_n 0, 1) := by decide +kernel
theorem dX8_at_50 : decode cX8_at 50 = .ok (.getfield 21, 3) := by decide +kernel
theorem dX8_at_53 : decode cX8_at 53 = .ok (.iload_n 3, 1) := by decide +kernel
theorem dX8_at_54 : decode cX8_at 54 = .ok (.iaload, 1) := by decide +kernel
theorem dX8_at_55 : decode cX8_at 55 = .ok (.ireturn, 1) := by decide +kernel
theorem dX8_put_0 : decode cX8_put 0 = .ok (.iload_n 1, 1) := by decide +kernel
theorem dX8_put_1 : decode cX8_put 1 = .ok (.aload_n 0, 1) := by decide +kernel
theorem dX8_put_2 : decode cX8_put 2 = .ok (.getfield 9, 3) := by decide +kernel
theorem dX8_put_5 : decode cX8_put 5 = .ok (.imul, 1) := by decide +kernel
theorem dX8_put_6 : decode cX8_put 6 = .ok (.iload_n 2, 1) := by decide +kernel
theorem dX8_put_7 : decode cX8_put 7 = .ok (.iadd, 1) := by decide +kernel
theorem dX8_put_8 : decode cX8_put 8 = .ok (.istore 4, 2) := by decide +kernel
theorem dX8_put_10 : decode cX8_put 10 = .ok (.iload_n 1, 1) := by decide +kernel
theorem dX8_put_11 : decode cX8_put 11 = .ok (.ifCond .lt 46, 3) := by decide +kernel
theorem dX8_put_14 : decode cX8_put 14 = .ok (.iload_n 1, 1) := by decide +kernel
theorem dX8_put_15 : decode cX8_put 15 = .ok (.aload_n 0, 1) := by decide +kernel
theorem dX8_put_16 : decode cX8_put 16 = .ok (.getfield 25, 3) := by decide +kernel
theorem dX8_put_19 : decode cX8_put 19 = .ok (.if_icmp .ge 38, 3) := by decide +kernel
theorem dX8_put_22 : decode cX8_put 22 = .ok (.iload_n 2, 1) := by decide +kernel
theorem dX8_put_23 : decode cX8_put 23 = .ok (.ifCond .lt 34, 3) := by decide +kernel
theorem dX8_put_26 : decode cX8_put 26 = .ok (.iload_n 2, 1) := by decide +kernel
theorem dX8_put_27 : decode cX8_put 27 = .ok (.aload_n 0, 1) := by decide +kernel
theorem dX8_put_28 : decode cX8_put 28 = .ok (.getfield 9, 3) := by decide +kernel
theorem dX8_put_31 : decode cX8_put 31 = .ok (.if_icmp .ge 26, 3) := by decide +kernel
theorem dX8_put_34 : decode cX8_put 34 = .ok (.iload 4, 2) := by decide +kernel
theorem dX8_put_36 : decode cX8_put 36 = .ok (.ifCond .lt 21, 3) := by decide +kernel
theorem dX8_put_39 : decode cX8_put 39 = .ok (.iload 4, 2) := by decide +kernel
theorem dX8_put_41 : decode cX8_put 41 = .ok (.aload_n 0, 1) := by decide +kernel
theorem dX8_put_42 : decode cX8_put 42 = .ok (.getfield 21, 3) := by decide +kernel
theorem dX8_put_45 : decode cX8_put 45 = .ok (.arraylength, 1) := by decide +kernel
theorem dX8_put_46 : decode cX8_put 46 = .ok (.if_icmp .ge 11, 3) := by decide +kernel
theorem dX8_put_49 : decode cX8_put 49 = .ok (.aload_n 0, 1) := by decide +kernel
theorem dX8_put_50 : decode cX8_put 50 = .ok (.getfield 21, 3) := by decide +kernel
theorem dX8_put_53 : decode cX8_put 53 = .ok (.iload 4, 2) := by decide +kernel
theorem dX8_put_55 : decode cX8_put 55 = .ok (.iload_n 3, 1) := by decide +kernel
theorem dX8_put_56 : decode cX8_put 56 = .ok (.iastore, 1) := by decide +kernel
theorem dX8_put_57 : decode cX8_put 57 = .ok (.return_, 1) := by decide +kernel
theorem dX8_addRow_0 : decode cX8_addRow 0 = .ok (.aload_n 0, 1) := by decide +kernel
theorem dX8_addRow_1 : decode cX8_addRow 1 = .ok (.getfield 25, 3) := by decide +kernel
theorem dX8_addRow_4 : decode cX8_addRow 4 = .ok (.iconst 1, 1) := by decide +kernel
theorem dX8_addRow_5 : decode cX8_addRow 5 = .ok (.iadd, 1) := by decide +kernel
theorem dX8_addRow_6 : decode cX8_addRow 6 = .ok (.aload_n 0, 1) := by decide +kernel
theorem dX8_addRow_7 : decode cX8_addRow 7 = .ok (.getfield 9, 3) := by decide +kernel
theorem dX8_addRow_10 : decode cX8_addRow 10 = .ok (.imul, 1) := by decide +kernel
theorem dX8_addRow_11 : decode cX8_addRow 11 = .ok (.aload_n 0, 1) := by decide +kernel
theorem dX8_addRow_12 : decode cX8_addRow 12 = .ok (.getfield 21, 3) := by decide +kernel
theorem dX8_addRow_15 : decode cX8_addRow 15 = .ok (.arraylength, 1) := by decide +kernel
theorem dX8_addRow_16 : decode cX8_addRow 16 = .ok (.if_icmp .le 5, 3) := by decide +kernel
theorem dX8_addRow_19 : decode cX8_addRow 19 = .ok (.iconst (-1), 1) := by decide +kernel
theorem dX8_addRow_20 : decode cX8_addRow 20 = .ok (.ireturn, 1) := by decide +kernel
theorem dX8_addRow_21 : decode cX8_addRow 21 = .ok (.aload_n 0, 1) := by decide +kernel
theorem dX8_addRow_22 : decode cX8_addRow 22 = .ok (.dup, 1) := by decide +kernel
theorem dX8_addRow_23 : decode cX8_addRow 23 = .ok (.getfield 25, 3) := by decide +kernel
theorem dX8_addRow_26 : decode cX8_addRow 26 = .ok (.iconst 1, 1) := by decide +kernel
theorem dX8_addRow_27 : decode cX8_addRow 27 = .ok (.iadd, 1) := by decide +kernel
theorem dX8_addRow_28 : decode cX8_addRow 28 = .ok (.putfield 25, 3) := by decide +kernel
theorem dX8_addRow_31 : decode cX8_addRow 31 = .ok (.aload_n 0, 1) := by decide +kernel
theorem dX8_addRow_32 : decode cX8_addRow 32 = .ok (.getfield 25, 3) := by decide +kernel
theorem dX8_addRow_35 : decode cX8_addRow 35 = .ok (.iconst 1, 1) := by decide +kernel
theorem dX8_addRow_36 : decode cX8_addRow 36 = .ok (.isub, 1) := by decide +kernel
theorem dX8_addRow_37 : decode cX8_addRow 37 = .ok (.ireturn, 1) := by decide +kernel
theorem dX8_cut_0 : decode cX8_cut 0 = .ok (.aload_n 0, 1) := by decide +kernel
theorem dX8_cut_1 : decode cX8_cut 1 = .ok (.iconst 0, 1) := by decide +kernel
theorem dX8_cut_2 : decode cX8_cut 2 = .ok (.aload_n 0, 1) := by decide +kernel
theorem dX8_cut_3 : decode cX8_cut 3 = .ok (.getfield 25, 3) := by decide +kernel
theorem dX8_cut_6 : decode cX8_cut 6 = .ok (.iload_n 1, 1) := by decide +kernel
theorem dX8_cut_7 : decode cX8_cut 7 = .ok (.invokestatic 28, 3) := by decide +kernel
theorem dX8_cut_10 : decode cX8_cut 10 = .ok (.invokestatic 15, 3) := by decide +kernel
theorem dX8_cut_13 : decode cX8_cut 13 = .ok (.putfield 25, 3) := by decide +kernel
theorem dX8_cut_16 : decode cX8_cut 16 = .ok (.return_, 1) := by decide +kernel
theorem dX8_removeFirstRow_0 : decode cX8_removeFirstRow 0 = .ok (.iconst 1, 1) := by decide +kernel
theorem dX8_removeFirstRow_1 : decode cX8_removeFirstRow 1 = .ok (.istore_n 1, 1) := by decide +kernel
theorem dX8_removeFirstRow_2 : decode cX8_removeFirstRow 2 = .ok (.iload_n 1, 1) := by decide +kernel
theorem dX8_removeFirstRow_3 : decode cX8_removeFirstRow 3 = .ok (.aload_n 0, 1) := by decide +kernel
theorem dX8_removeFirstRow_4 : decode cX8_removeFirstRow 4 = .ok (.getfield 25, 3) := by decide +kernel
theorem dX8_removeFirstRow_7 : decode cX8_removeFirstRow 7 = .ok (.if_icmp .ge 39, 3) := by decide +kernel
theorem dX8_removeFirstRow_10 : decode cX8_removeFirstRow 10 = .ok (.iconst 0, 1) := by decide +kernel
theorem dX8_removeFirstRow_11 : decode cX8_removeFirstRow 11 = .ok (.istore_n 2, 1) := by decide +kernel
theorem dX8_removeFirstRow_12 : decode cX8_removeFirstRow 12 = .ok (.iload_n 2, 1) := by decide +kernel
theorem dX8_removeFirstRow_13 : decode cX8_removeFirstRow 13 = .ok (.aload_n 0, 1) := by decide +kernel
theorem dX8_removeFirstRow_14 : decode cX8_removeFirstRow 14 = .ok (.getfield 9, 3) := by decide +kernel
theorem dX8_removeFirstRow_17 : decode cX8_removeFirstRow 17 = .ok (.if_icmp .ge 23, 3) := by decide +kernel
theorem dX8_removeFirstRow_20 : decode cX8_removeFirstRow 20 = .ok (.aload_n 0, 1) := by decide +kernel
theorem dX8_removeFirstRow_21 : decode cX8_removeFirstRow 21 = .ok (.iload_n 1, 1) := by decide +kernel
theorem dX8_removeFirstRow_22 : decode cX8_removeFirstRow 22 = .ok (.iconst 1, 1) := by decide +kernel
theorem dX8_removeFirstRow_23 : decode cX8_removeFirstRow 23 = .ok (.isub, 1) := by decide +kernel
theorem dX8_removeFirstRow_24 : decode cX8_removeFirstRow 24 = .ok (.iload_n 2, 1) := by decide +kernel
theorem dX8_removeFirstRow_25 : decode cX8_removeFirstRow 25 = .ok (.aload_n 0, 1) := by decide +kernel
theorem dX8_removeFirstRow_26 : decode cX8_removeFirstRow 26 = .ok (.iload_n 1, 1) := by decide +kernel
theorem dX8_removeFirstRow_27 : decode cX8_removeFirstRow 27 = .ok (.iload_n 2, 1) := by decide +kernel
theorem dX8_removeFirstRow_28 : decode cX8_removeFirstRow 28 = .ok (.invokevirtual 31, 3) := by decide +kernel
theorem dX8_removeFirstRow_31 : decode cX8_removeFirstRow 31 = .ok (.invokevirtual 34, 3) := by decide +kernel
theorem dX8_removeFirstRow_34 : decode cX8_removeFirstRow 34 = .ok (.iinc 2 1, 3) := by decide +kernel
theorem dX8_removeFirstRow_37 : decode cX8_removeFirstRow 37 = .ok (.goto (-25), 3) := by decide +kernel
theorem dX8_removeFirstRow_40 : decode cX8_removeFirstRow 40 = .ok (.iinc 1 1, 3) := by decide +kernel
theorem dX8_removeFirstRow_43 : decode cX8_removeFirstRow 43 = .ok (.goto (-41), 3) := by decide +kernel
theorem dX8_removeFirstRow_46 : decode cX8_removeFirstRow 46 = .ok (.aload_n 0, 1) := by decide +kernel
theorem dX8_removeFirstRow_47 : decode cX8_removeFirstRow 47 = .ok (.aload_n 0, 1) := by decide +kernel
theorem dX8_removeFirstRow_48 : decode cX8_removeFirstRow 48 = .ok (.getfield 25, 3) := by decide +kernel
theorem dX8_removeFirstRow_51 : decode cX8_removeFirstRow 51 = .ok (.iconst 1, 1) := by decide +kernel
theorem dX8_removeFirstRow_52 : decode cX8_removeFirstRow 52 = .ok (.isub, 1) := by decide +kernel
theorem dX8_removeFirstRow_53 : decode cX8_removeFirstRow 53 = .ok (.invokevirtual 38, 3) := by decide +kernel
theorem dX8_removeFirstRow_56 : decode cX8_removeFirstRow 56 = .ok (.return_, 1) := by decide +kernel
theorem dX8_copyFrom_0 : decode cX8_copyFrom 0 = .ok (.aload_n 0, 1) := by decide +kernel
theorem dX8_copyFrom_1 : decode cX8_copyFrom 1 = .ok (.iconst 0, 1) := by decide +kernel
theorem dX8_copyFrom_2 : decode cX8_copyFrom 2 = .ok (.putfield 25, 3) := by decide +kernel
theorem dX8_copyFrom_5 : decode cX8_copyFrom 5 = .ok (.aload_n 0, 1) := by decide +kernel
theorem dX8_copyFrom_6 : decode cX8_copyFrom 6 = .ok (.aload_n 1, 1) := by decide +kernel
theorem dX8_copyFrom_7 : decode cX8_copyFrom 7 = .ok (.invokevirtual 42, 3) := by decide +kernel
theorem dX8_copyFrom_10 : decode cX8_copyFrom 10 = .ok (.return_, 1) := by decide +kernel
theorem dX8_appendFrom_0 : decode cX8_appendFrom 0 = .ok (.iconst 0, 1) := by decide +kernel
theorem dX8_appendFrom_1 : decode cX8_appendFrom 1 = .ok (.istore_n 2, 1) := by decide +kernel
theorem dX8_appendFrom_2 : decode cX8_appendFrom 2 = .ok (.iload_n 2, 1) := by decide +kernel
theorem dX8_appendFrom_3 : decode cX8_appendFrom 3 = .ok (.aload_n 1, 1) := by decide +kernel
theorem dX8_appendFrom_4 : decode cX8_appendFrom 4 = .ok (.getfield 25, 3) := by decide +kernel
theorem dX8_appendFrom_7 : decode cX8_appendFrom 7 = .ok (.if_icmp .ge 46, 3) := by decide +kernel
theorem dX8_appendFrom_10 : decode cX8_appendFrom 10 = .ok (.aload_n 0, 1) := by decide +kernel
theorem dX8_appendFrom_11 : decode cX8_appendFrom 11 = .ok (.invokevirtual 46, 3) := by decide +kernel
theorem dX8_appendFrom_14 : decode cX8_appendFrom 14 = .ok (.istore_n 3, 1) := by decide +kernel
theorem dX8_appendFrom_15 : decode cX8_appendFrom 15 = .ok (.iconst 0, 1) := by decide +kernel
theorem dX8_appendFrom_16 : decode cX8_appendFrom 16 = .ok (.istore 4, 2) := by decide +kernel
theorem dX8_appendFrom_18 : decode cX8_appendFrom 18 = .ok (.iload 4, 2) := by decide +kernel
theorem dX8_appendFrom_20 : decode cX8_appendFrom 20 = .ok (.aload_n 0, 1) := by decide +kernel
theorem dX8_appendFrom_21 : decode cX8_appendFrom 21 = .ok (.getfield 9, 3) := by decide +kernel
theorem dX8_appendFrom_24 : decode cX8_appendFrom 24 = .ok (.if_icmp .ge 23, 3) := by decide +kernel
theorem dX8_appendFrom_27 : decode cX8_appendFrom 27 = .ok (.aload_n 0, 1) := by decide +kernel
theorem dX8_appendFrom_28 : decode cX8_appendFrom 28 = .ok (.iload_n 3, 1) := by decide +kernel
theorem dX8_appendFrom_29 : decode cX8_appendFrom 29 = .ok (.iload 4, 2) := by decide +kernel
theorem dX8_appendFrom_31 : decode cX8_appendFrom 31 = .ok (.aload_n 1, 1) := by decide +kernel
theorem dX8_appendFrom_32 : decode cX8_appendFrom 32 = .ok (.iload_n 2, 1) := by decide +kernel
theorem dX8_appendFrom_33 : decode cX8_appendFrom 33 = .ok (.iload 4, 2) := by decide +kernel
theorem dX8_appendFrom_35 : decode cX8_appendFrom 35 = .ok (.invokevirtual 31, 3) := by decide +kernel
theorem dX8_appendFrom_38 : decode cX8_appendFrom 38 = .ok (.invokevirtual 34, 3) := by decide +kernel
theorem dX8_appendFrom_41 : decode cX8_appendFrom 41 = .ok (.iinc 4 1, 3) := by decide +kernel
theorem dX8_appendFrom_44 : decode cX8_appendFrom 44 = .ok (.goto (-26), 3) := by decide +kernel
theorem dX8_appendFrom_47 : decode cX8_appendFrom 47 = .ok (.iinc 2 1, 3) := by decide +kernel
theorem dX8_appendFrom_50 : decode cX8_appendFrom 50 = .ok (.goto (-48), 3) := by decide +kernel
theorem dX8_appendFrom_53 : decode cX8_appendFrom 53 = .ok (.return_, 1) := by decide +kernel
theorem dX9_isFull_0 : decode cX9_isFull 0 = .ok (.aload_n 0, 1) := by decide +kernel
theorem dX9_isFull_1 : decode cX9_isFull 1 = .ok (.getfield 15, 3) := by decide +kernel
theorem dX9_isFull_4 : decode cX9_isFull 4 = .ok (.aload_n 0, 1) := by decide +kernel
theorem dX9_isFull_5 : decode cX9_isFull 5 = .ok (.getfield 9, 3) := by decide +kernel
theorem dX9_isFull_8 : decode cX9_isFull 8 = .ok (.arraylength, 1) := by decide +kernel
theorem dX9_isFull_9 : decode cX9_isFull 9 = .ok (.if_icmp .lt 7, 3) := by decide +kernel
theorem dX9_isFull_12 : decode cX9_isFull 12 = .ok (.iconst 1, 1) := by decide +kernel
theorem dX9_isFull_13 : decode cX9_isFull 13 = .ok (.goto 4, 3) := by decide +kernel
theorem dX9_isFull_16 : decode cX9_isFull 16 = .ok (.iconst 0, 1) := by decide +kernel
theorem dX9_isFull_17 : decode cX9_isFull 17 = .ok (.ireturn, 1) := by decide +kernel
theorem dX9_append_0 : decode cX9_append 0 = .ok (.aload_n 0, 1) := by decide +kernel
theorem dX9_append_1 : decode cX9_append 1 = .ok (.getfield 15, 3) := by decide +kernel
theorem dX9_append_4 : decode cX9_append 4 = .ok (.ifCond .lt 35, 3) := by decide +kernel
theorem dX9_append_7 : decode cX9_append 7 = .ok (.aload_n 0, 1) := by decide +kernel
theorem dX9_append_8 : decode cX9_append 8 = .ok (.getfield 15, 3) := by decide +kernel
theorem dX9_append_11 : decode cX9_append 11 = .ok (.aload_n 0, 1) := by decide +kernel
theorem dX9_append_12 : decode cX9_append 12 = .ok (.getfield 9, 3) := by decide +kernel
theorem dX9_append_15 : decode cX9_append 15 = .ok (.arraylength, 1) := by decide +kernel
theorem dX9_append_16 : decode cX9_append 16 = .ok (.if_icmp .ge 23, 3) := by decide +kernel
theorem dX9_append_19 : decode cX9_append 19 = .ok (.aload_n 0, 1) := by decide +kernel
theorem dX9_append_20 : decode cX9_append 20 = .ok (.getfield 9, 3) := by decide +kernel
theorem dX9_append_23 : decode cX9_append 23 = .ok (.aload_n 0, 1) := by decide +kernel
theorem dX9_append_24 : decode cX9_append 24 = .ok (.getfield 15, 3) := by decide +kernel
theorem dX9_append_27 : decode cX9_append 27 = .ok (.iload_n 1, 1) := by decide +kernel
theorem dX9_append_28 : decode cX9_append 28 = .ok (.iastore, 1) := by decide +kernel
theorem dX9_append_29 : decode cX9_append 29 = .ok (.aload_n 0, 1) := by decide +kernel
theorem dX9_append_30 : decode cX9_append 30 = .ok (.dup, 1) := by decide +kernel
theorem dX9_append_31 : decode cX9_append 31 = .ok (.getfield 15, 3) := by decide +kernel
theorem dX9_append_34 : decode cX9_append 34 = .ok (.iconst 1, 1) := by decide +kernel
theorem dX9_append_35 : decode cX9_append 35 = .ok (.iadd, 1) := by decide +kernel
theorem dX9_append_36 : decode cX9_append 36 = .ok (.putfield 15, 3) := by decide +kernel
theorem dX9_append_39 : decode cX9_append 39 = .ok (.return_, 1) := by decide +kernel
theorem dX9_empty_0 : decode cX9_empty 0 = .ok (.aload_n 0, 1) := by decide +kernel
theorem dX9_empty_1 : decode cX9_empty 1 = .ok (.iconst 0, 1) := by decide +kernel
theorem dX9_empty_2 : decode cX9_empty 2 = .ok (.putfield 15, 3) := by decide +kernel
theorem dX9_empty_5 : decode cX9_empty 5 = .ok (.return_, 1) := by decide +kernel
theorem dX9_byteAt_0 : decode cX9_byteAt 0 = .ok (.iload_n 1, 1) := by decide +kernel
theorem dX9_byteAt_1 : decode cX9_byteAt 1 = .ok (.ifCond .lt 20, 3) := by decide +kernel
theorem dX9_byteAt_4 : decode cX9_byteAt 4 = .ok (.iload_n 1, 1) := by decide +kernel
theorem dX9_byteAt_5 : decode cX9_byteAt 5 = .ok (.aload_n 0, 1) := by decide +kernel
theorem dX9_byteAt_6 : decode cX9_byteAt 6 = .ok (.getfield 15, 3) := by decide +kernel
theorem dX9_byteAt_9 : decode cX9_byteAt 9 = .ok (.if_icmp .ge 12, 3) := by decide +kernel
theorem dX9_byteAt_12 : decode cX9_byteAt 12 = .ok (.iload_n 1, 1) := by decide +kernel
theorem dX9_byteAt_13 : decode cX9_byteAt 13 = .ok (.aload_n 0, 1) := by decide +kernel
theorem dX9_byteAt_14 : decode cX9_byteAt 14 = .ok (.getfield 9, 3) := by decide +kernel
theorem dX9_byteAt_17 : decode cX9_byteAt 17 = .ok (.arraylength, 1) := by decide +kernel
theorem dX9_byteAt_18 : decode cX9_byteAt 18 = .ok (.if_icmp .lt 6, 3) := by decide +kernel
theorem dX9_byteAt_21 : decode cX9_byteAt 21 = .ok (.bipush (-9), 2) := by decide +kernel
theorem dX9_byteAt_23 : decode cX9_byteAt 23 = .ok (.ireturn, 1) := by decide +kernel
theorem dX9_byteAt_24 : decode cX9_byteAt 24 = .ok (.aload_n 0, 1) := by decide +kernel
theorem dX9_byteAt_25 : decode cX9_byteAt 25 = .ok (.getfield 9, 3) := by decide +kernel
theorem dX9_byteAt_28 : decode cX9_byteAt 28 = .ok (.iload_n 1, 1) := by decide +kernel
theorem dX9_byteAt_29 : decode cX9_byteAt 29 = .ok (.iaload, 1) := by decide +kernel
theorem dX9_byteAt_30 : decode cX9_byteAt 30 = .ok (.ireturn, 1) := by decide +kernel
theorem dX1_ticksFor_0 : decode cX1_ticksFor 0 = .ok (.aload_n 0, 1) := by decide +kernel
theorem dX1_ticksFor_1 : decode cX1_ticksFor 1 = .ok (.getfield 24, 3) := by decide +kernel
theorem dX1_ticksFor_4 : decode cX1_ticksFor 4 = .ok (.iconst 1, 1) := by decide +kernel
theorem dX1_ticksFor_5 : decode cX1_ticksFor 5 = .ok (.if_icmp .ge 9, 3) := by decide +kernel
theorem dX1_ticksFor_8 : decode cX1_ticksFor 8 = .ok (.sipush 1000, 3) := by decide +kernel
theorem dX1_ticksFor_11 : decode cX1_ticksFor 11 = .ok (.goto 16, 3) := by decide +kernel
theorem dX1_ticksFor_14 : decode cX1_ticksFor 14 = .ok (.iload_n 1, 1) := by decide +kernel
theorem dX1_ticksFor_15 : decode cX1_ticksFor 15 = .ok (.aload_n 0, 1) := by decide +kernel
theorem dX1_ticksFor_16 : decode cX1_ticksFor 16 = .ok (.getfield 24, 3) := by decide +kernel
theorem dX1_ticksFor_19 : decode cX1_ticksFor 19 = .ok (.iadd, 1) := by decide +kernel
theorem dX1_ticksFor_20 : decode cX1_ticksFor 20 = .ok (.iconst 1, 1) := by decide +kernel
theorem dX1_ticksFor_21 : decode cX1_ticksFor 21 = .ok (.isub, 1) := by decide +kernel
theorem dX1_ticksFor_22 : decode cX1_ticksFor 22 = .ok (.aload_n 0, 1) := by decide +kernel
theorem dX1_ticksFor_23 : decode cX1_ticksFor 23 = .ok (.getfield 24, 3) := by decide +kernel
theorem dX1_ticksFor_26 : decode cX1_ticksFor 26 = .ok (.idiv, 1) := by decide +kernel
theorem dX1_ticksFor_27 : decode cX1_ticksFor 27 = .ok (.ireturn, 1) := by decide +kernel
theorem dX1_property_0 : decode cX1_property 0 = .ok (.iload_n 1, 1) := by decide +kernel
theorem dX1_property_1 : decode cX1_property 1 = .ok (.tableswitch 69 0 5 #[39, 44, 49, 54, 59, 64], 39) := by decide +kernel
theorem dX1_property_40 : decode cX1_property 40 = .ok (.aload_n 0, 1) := by decide +kernel
theorem dX1_property_41 : decode cX1_property 41 = .ok (.getfield 9, 3) := by decide +kernel
theorem dX1_property_44 : decode cX1_property 44 = .ok (.ireturn, 1) := by decide +kernel
theorem dX1_property_45 : decode cX1_property 45 = .ok (.aload_n 0, 1) := by decide +kernel
theorem dX1_property_46 : decode cX1_property 46 = .ok (.getfield 15, 3) := by decide +kernel
theorem dX1_property_49 : decode cX1_property 49 = .ok (.ireturn, 1) := by decide +kernel
theorem dX1_property_50 : decode cX1_property 50 = .ok (.aload_n 0, 1) := by decide +kernel
theorem dX1_property_51 : decode cX1_property 51 = .ok (.getfield 18, 3) := by decide +kernel
theorem dX1_property_54 : decode cX1_property 54 = .ok (.ireturn, 1) := by decide +kernel
theorem dX1_property_55 : decode cX1_property 55 = .ok (.aload_n 0, 1) := by decide +kernel
theorem dX1_property_56 : decode cX1_property 56 = .ok (.getfield 21, 3) := by decide +kernel
theorem dX1_property_59 : decode cX1_property 59 = .ok (.ireturn, 1) := by decide +kernel
theorem dX1_property_60 : decode cX1_property 60 = .ok (.aload_n 0, 1) := by decide +kernel
theorem dX1_property_61 : decode cX1_property 61 = .ok (.getfield 24, 3) := by decide +kernel
theorem dX1_property_64 : decode cX1_property 64 = .ok (.ireturn, 1) := by decide +kernel
theorem dX1_property_65 : decode cX1_property 65 = .ok (.aload_n 0, 1) := by decide +kernel
theorem dX1_property_66 : decode cX1_property 66 = .ok (.getfield 27, 3) := by decide +kernel
theorem dX1_property_69 : decode cX1_property 69 = .ok (.ireturn, 1) := by decide +kernel
theorem dX1_property_70 : decode cX1_property 70 = .ok (.iconst (-1), 1) := by decide +kernel
theorem dX1_property_71 : decode cX1_property 71 = .ok (.ireturn, 1) := by decide +kernel
theorem dJ6_bitCount_0f7a4_0 : decode cJ6_bitCount_0f7a4 0 = .ok (.iload_n 0, 1) := by decide +kernel
theorem dJ6_bitCount_0f7a4_1 : decode cJ6_bitCount_0f7a4 1 = .ok (.iload_n 0, 1) := by decide +kernel
theorem dJ6_bitCount_0f7a4_2 : decode cJ6_bitCount_0f7a4 2 = .ok (.iconst 1, 1) := by decide +kernel
theorem dJ6_bitCount_0f7a4_3 : decode cJ6_bitCount_0f7a4 3 = .ok (.iushr, 1) := by decide +kernel
theorem dJ6_bitCount_0f7a4_4 : decode cJ6_bitCount_0f7a4 4 = .ok (.ldc_w 265, 3) := by decide +kernel
theorem dJ6_bitCount_0f7a4_7 : decode cJ6_bitCount_0f7a4 7 = .ok (.iand, 1) := by decide +kernel
theorem dJ6_bitCount_0f7a4_8 : decode cJ6_bitCount_0f7a4 8 = .ok (.isub, 1) := by decide +kernel
theorem dJ6_bitCount_0f7a4_9 : decode cJ6_bitCount_0f7a4 9 = .ok (.istore_n 0, 1) := by decide +kernel
theorem dJ6_bitCount_0f7a4_10 : decode cJ6_bitCount_0f7a4 10 = .ok (.iload_n 0, 1) := by decide +kernel
theorem dJ6_bitCount_0f7a4_11 : decode cJ6_bitCount_0f7a4 11 = .ok (.ldc_w 266, 3) := by decide +kernel
theorem dJ6_bitCount_0f7a4_14 : decode cJ6_bitCount_0f7a4 14 = .ok (.iand, 1) := by decide +kernel
theorem dJ6_bitCount_0f7a4_15 : decode cJ6_bitCount_0f7a4 15 = .ok (.iload_n 0, 1) := by decide +kernel
theorem dJ6_bitCount_0f7a4_16 : decode cJ6_bitCount_0f7a4 16 = .ok (.iconst 2, 1) := by decide +kernel
theorem dJ6_bitCount_0f7a4_17 : decode cJ6_bitCount_0f7a4 17 = .ok (.iushr, 1) := by decide +kernel
theorem dJ6_bitCount_0f7a4_18 : decode cJ6_bitCount_0f7a4 18 = .ok (.ldc_w 266, 3) := by decide +kernel
theorem dJ6_bitCount_0f7a4_21 : decode cJ6_bitCount_0f7a4 21 = .ok (.iand, 1) := by decide +kernel
theorem dJ6_bitCount_0f7a4_22 : decode cJ6_bitCount_0f7a4 22 = .ok (.iadd, 1) := by decide +kernel
theorem dJ6_bitCount_0f7a4_23 : decode cJ6_bitCount_0f7a4 23 = .ok (.istore_n 0, 1) := by decide +kernel
theorem dJ6_bitCount_0f7a4_24 : decode cJ6_bitCount_0f7a4 24 = .ok (.iload_n 0, 1) := by decide +kernel
theorem dJ6_bitCount_0f7a4_25 : decode cJ6_bitCount_0f7a4 25 = .ok (.iload_n 0, 1) := by decide +kernel
theorem dJ6_bitCount_0f7a4_26 : decode cJ6_bitCount_0f7a4 26 = .ok (.iconst 4, 1) := by decide +kernel
theorem dJ6_bitCount_0f7a4_27 : decode cJ6_bitCount_0f7a4 27 = .ok (.iushr, 1) := by decide +kernel
theorem dJ6_bitCount_0f7a4_28 : decode cJ6_bitCount_0f7a4 28 = .ok (.iadd, 1) := by decide +kernel
theorem dJ6_bitCount_0f7a4_29 : decode cJ6_bitCount_0f7a4 29 = .ok (.ldc_w 267, 3) := by decide +kernel
theorem dJ6_bitCount_0f7a4_32 : decode cJ6_bitCount_0f7a4 32 = .ok (.iand, 1) := by decide +kernel
theorem dJ6_bitCount_0f7a4_33 : decode cJ6_bitCount_0f7a4 33 = .ok (.istore_n 0, 1) := by decide +kernel
theorem dJ6_bitCount_0f7a4_34 : decode cJ6_bitCount_0f7a4 34 = .ok (.iload_n 0, 1) := by decide +kernel
theorem dJ6_bitCount_0f7a4_35 : decode cJ6_bitCount_0f7a4 35 = .ok (.iload_n 0, 1) := by decide +kernel
theorem dJ6_bitCount_0f7a4_36 : decode cJ6_bitCount_0f7a4 36 = .ok (.bipush 8, 2) := by decide +kernel
theorem dJ6_bitCount_0f7a4_38 : decode cJ6_bitCount_0f7a4 38 = .ok (.iushr, 1) := by decide +kernel
theorem dJ6_bitCount_0f7a4_39 : decode cJ6_bitCount_0f7a4 39 = .ok (.iadd, 1) := by decide +kernel
theorem dJ6_bitCount_0f7a4_40 : decode cJ6_bitCount_0f7a4 40 = .ok (.istore_n 0, 1) := by decide +kernel
theorem dJ6_bitCount_0f7a4_41 : decode cJ6_bitCount_0f7a4 41 = .ok (.iload_n 0, 1) := by decide +kernel
theorem dJ6_bitCount_0f7a4_42 : decode cJ6_bitCount_0f7a4 42 = .ok (.iload_n 0, 1) := by decide +kernel
theorem dJ6_bitCount_0f7a4_43 : decode cJ6_bitCount_0f7a4 43 = .ok (.bipush 16, 2) := by decide +kernel
theorem dJ6_bitCount_0f7a4_45 : decode cJ6_bitCount_0f7a4 45 = .ok (.iushr, 1) := by decide +kernel
theorem dJ6_bitCount_0f7a4_46 : decode cJ6_bitCount_0f7a4 46 = .ok (.iadd, 1) := by decide +kernel
theorem dJ6_bitCount_0f7a4_47 : decode cJ6_bitCount_0f7a4 47 = .ok (.istore_n 0, 1) := by decide +kernel
theorem dJ6_bitCount_0f7a4_48 : decode cJ6_bitCount_0f7a4 48 = .ok (.iload_n 0, 1) := by decide +kernel
theorem dJ6_bitCount_0f7a4_49 : decode cJ6_bitCount_0f7a4 49 = .ok (.bipush 63, 2) := by decide +kernel
theorem dJ6_bitCount_0f7a4_51 : decode cJ6_bitCount_0f7a4 51 = .ok (.iand, 1) := by decide +kernel
theorem dJ6_bitCount_0f7a4_52 : decode cJ6_bitCount_0f7a4 52 = .ok (.ireturn, 1) := by decide +kernel
theorem m_X8_at {G : GT} (hg : gx G = FX) {n : Nat} {μ : Mem} {Q : Int → Nat → Mem → Prop} {v0 v1 v2 : Int} (o0 : St v0 8 3) (h : ((v1 < 0 → (Q (-9) n μ)) ∧ (¬ (v1 < 0) → (((μ v0 2) ≤ v1 → (Q (-9) n μ)) ∧ (¬ ((μ v0 2) ≤ v1) → ((v2 < 0 → (Q (-9) n μ)) ∧ (¬ (v2 < 0) → (((colsOf (SH (v0 + 1)).2) ≤ v2 → (Q (-9) n μ)) ∧ (¬ ((colsOf (SH (v0 + 1)).2) ≤ v2) → (((wrap ((wrap (v1 * (colsOf (SH (v0 + 1)).2))) + v2)) < 0 → (Q (-9) n μ)) ∧ (¬ ((wrap ((wrap (v1 * (colsOf (SH (v0 + 1)).2))) + v2)) < 0) → (((SH (v0 + 1)).2 < 2147483648) ∧ (((wrap ((wrap (v1 * (colsOf (SH (v0 + 1)).2))) + v2)) < (((SH (v0 + 1)).2 : Nat) : Int) → (((0 : Int) ≤ wrap ((wrap (v1 * (colsOf (SH (v0 + 1)).2))) + v2) ∧ wrap ((wrap (v1 * (colsOf (SH (v0 + 1)).2))) + v2) < (((SH (v0 + 1)).2 : Nat) : Int)) ∧ (Q (μ (v0 + 1) (wrap ((wrap (v1 * (colsOf (SH (v0 + 1)).2))) + v2))) n μ))) ∧ (¬ ((wrap ((wrap (v1 * (colsOf (SH (v0 + 1)).2))) + v2)) < (((SH (v0 + 1)).2 : Nat) : Int)) → (Q (-9) n μ))))))))))))))) : CI G Y_X8_at [.inr v0, .inl v1, .inl v2] n μ Q := by
  refine e_I (by decide) (Nat.le_of_ble_eq_true rfl) ?_
  show Wa G Y_X8_at (ZI G Y_X8_at Q) 0 0 n μ 0 [(0, .inr v0), (1, .inl v1), (2, .inl v2)] []
  refine a_iload_n (k := 1) dX8_at_0 rfl rfl ?_
  refine a_aload_n (k := 0) dX8_at_1 rfl rfl ?_
  refine gs_X8_9 rfl dX8_at_2 hg o0 ?_
  refine a_imulw dX8_at_5 ?_
  refine a_iload_n (k := 2) dX8_at_6 rfl rfl ?_
  refine a_iaddw dX8_at_7 ?_
  refine b_istore_n (L' := [(0, .inr v0), (1, .inl v1), (2, .inl v2), (3, .inl (wrap ((wrap (v1 * (colsOf (SH (v0 + 1)).2))) + v2)))]) [1, 2, 3, 0] dX8_at_8 rfl (by decide) rfl ?_
  refine a_iload_n (k := 1) dX8_at_9 rfl rfl ?_
  refine a_if_lt (tgt := 46) dX8_at_10 (by decide) (fun c1 => ?_) (fun c1 => ?_)
  · replace h := h.1 c1
    refine a_bipush dX8_at_46 (by decide) (by decide) ?_
    exact a_iret dX8_at_48 rfl (Nat.le_of_ble_eq_true rfl) (Nat.le_of_ble_eq_true rfl) h
  · replace h := h.2 c1
    refine a_iload_n (k := 1) dX8_at_13 rfl rfl ?_
    refine a_aload_n (k := 0) dX8_at_14 rfl rfl ?_
    refine g_X8_25 rfl dX8_at_15 (St_ho hg o0) ?_
    refine a_icmp_ge (tgt := 46) dX8_at_18 (by decide) (fun c2 => ?_) (fun c2 => ?_)
    · replace h := h.1 c2
      refine a_bipush dX8_at_46 (by decide) (by decide) ?_
      exact a_iret dX8_at_48 rfl (Nat.le_of_ble_eq_true rfl) (Nat.le_of_ble_eq_true rfl) h
    · replace h := h.2 c2
      refine a_iload_n (k := 2) dX8_at_21 rfl rfl ?_
      refine a_if_lt (tgt := 46) dX8_at_22 (by decide) (fun c3 => ?_) (fun c3 => ?_)
      · replace h := h.1 c3
        refine a_bipush dX8_at_46 (by decide) (by decide) ?_
        exact a_iret dX8_at_48 rfl (Nat.le_of_ble_eq_true rfl) (Nat.le_of_ble_eq_true rfl) h
      · replace h := h.2 c3
        refine a_iload_n (k := 2) dX8_at_25 rfl rfl ?_
        refine a_aload_n (k := 0) dX8_at_26 rfl rfl ?_
        refine gs_X8_9 rfl dX8_at_27 hg o0 ?_
        refine a_icmp_ge (tgt := 46) dX8_at_30 (by decide) (fun c4 => ?_) (fun c4 => ?_)
        · replace h := h.1 c4
          refine a_bipush dX8_at_46 (by decide) (by decide) ?_
          exact a_iret dX8_at_48 rfl (Nat.le_of_ble_eq_true rfl) (Nat.le_of_ble_eq_true rfl) h
        · replace h := h.2 c4
          refine a_iload_n (k := 3) dX8_at_33 rfl rfl ?_
          refine a_if_lt (tgt := 46) dX8_at_34 (by decide) (fun c5 => ?_) (fun c5 => ?_)
          · replace h := h.1 c5
            refine a_bipush dX8_at_46 (by decide) (by decide) ?_
            exact a_iret dX8_at_48 rfl (Nat.le_of_ble_eq_true rfl) (Nat.le_of_ble_eq_true rfl) h
          · replace h := h.2 c5
            refine a_iload_n (k := 3) dX8_at_37 rfl rfl ?_
            refine a_aload_n (k := 0) dX8_at_38 rfl rfl ?_
            refine gs_X8_21 rfl dX8_at_39 hg o0 ?_
            obtain ⟨q6, h⟩ := h
            refine a_alen (N := (SH (v0 + 1)).2) (t0 := 0) dX8_at_42 (by decide) q6 rfl (St_ho hg (st_8_1 o0)) ?_
            refine a_icmp_lt (tgt := 49) dX8_at_43 (by decide) (fun c7 => ?_) (fun c7 => ?_)
            · replace h := h.1 c7
              refine a_aload_n (k := 0) dX8_at_49 rfl rfl ?_
              refine gs_X8_21 rfl dX8_at_50 hg o0 ?_
              refine a_iload_n (k := 3) dX8_at_53 rfl rfl ?_
              obtain ⟨q8, h⟩ := h
              refine a_iaload dX8_at_54 (St_ho hg (st_8_1 o0)) q8.1 q8.2 ?_
              exact a_iret dX8_at_55 rfl (Nat.le_of_ble_eq_true rfl) (Nat.le_of_ble_eq_true rfl) h
            · replace h := h.2 c7
              refine a_bipush dX8_at_46 (by decide) (by decide) ?_
              exact a_iret dX8_at_48 rfl (Nat.le_of_ble_eq_true rfl) (Nat.le_of_ble_eq_true rfl) h
theorem m_X8_put {G : GT} (hg : gx G = FX) {n : Nat} {μ : Mem} {Q : Nat → Mem → Prop} {v0 v1 v2 v3 : Int} (o0 : St v0 8 3) (h : ((v1 < 0 → (Q n μ)) ∧ (¬ (v1 < 0) → (((μ v0 2) ≤ v1 → (Q n μ)) ∧ (¬ ((μ v0 2) ≤ v1) → ((v2 < 0 → (Q n μ)) ∧ (¬ (v2 < 0) → (((colsOf (SH (v0 + 1)).2) ≤ v2 → (Q n μ)) ∧ (¬ ((colsOf (SH (v0 + 1)).2) ≤ v2) → (((wrap ((wrap (v1 * (colsOf (SH (v0 + 1)).2))) + v2)) < 0 → (Q n μ)) ∧ (¬ ((wrap ((wrap (v1 * (colsOf (SH (v0 + 1)).2))) + v2)) < 0) → (((SH (v0 + 1)).2 < 2147483648) ∧ (((((SH (v0 + 1)).2 : Nat) : Int) ≤ (wrap ((wrap (v1 * (colsOf (SH (v0 + 1)).2))) + v2)) → (Q n μ)) ∧ (¬ ((((SH (v0 + 1)).2 : Nat) : Int) ≤ (wrap ((wrap (v1 * (colsOf (SH (v0 + 1)).2))) + v2))) → (((0 : Int) ≤ wrap ((wrap (v1 * (colsOf (SH (v0 + 1)).2))) + v2) ∧ wrap ((wrap (v1 * (colsOf (SH (v0 + 1)).2))) + v2) < (((SH (v0 + 1)).2 : Nat) : Int)) ∧ (Q n (up μ (v0 + 1) (wrap ((wrap (v1 * (colsOf (SH (v0 + 1)).2))) + v2)) v3))))))))))))))))) : CV G Y_X8_put [.inr v0, .inl v1, .inl v2, .inl v3] n μ Q := by
  refine e_V (by decide) (Nat.le_of_ble_eq_true rfl) ?_
  show Wa G Y_X8_put (ZV G Y_X8_put Q) 0 0 n μ 0 [(0, .inr v0), (1, .inl v1), (2, .inl v2), (3, .inl v3)] []
  refine a_iload_n (k := 1) dX8_put_0 rfl rfl ?_
  refine a_aload_n (k := 0) dX8_put_1 rfl rfl ?_
  refine gs_X8_9 rfl dX8_put_2 hg o0 ?_
  refine a_imulw dX8_put_5 ?_
  refine a_iload_n (k := 2) dX8_put_6 rfl rfl ?_
  refine a_iaddw dX8_put_7 ?_
  refine b_istore (L' := [(0, .inr v0), (1, .inl v1), (2, .inl v2), (3, .inl v3), (4, .inl (wrap ((wrap (v1 * (colsOf (SH (v0 + 1)).2))) + v2)))]) [1, 2, 3, 4, 0] dX8_put_8 (by decide) rfl ?_
  refine a_iload_n (k := 1) dX8_put_10 rfl rfl ?_
  refine a_if_lt (tgt := 57) dX8_put_11 (by decide) (fun c1 => ?_) (fun c1 => ?_)
  · replace h := h.1 c1
    exact a_ret dX8_put_57 rfl (Nat.le_of_ble_eq_true rfl) (Nat.le_of_ble_eq_true rfl) h
  · replace h := h.2 c1
    refine a_iload_n (k := 1) dX8_put_14 rfl rfl ?_
    refine a_aload_n (k := 0) dX8_put_15 rfl rfl ?_
    refine g_X8_25 rfl dX8_put_16 (St_ho hg o0) ?_
    refine a_icmp_ge (tgt := 57) dX8_put_19 (by decide) (fun c2 => ?_) (fun c2 => ?_)
    · replace h := h.1 c2
      exact a_ret dX8_put_57 rfl (Nat.le_of_ble_eq_true rfl) (Nat.le_of_ble_eq_true rfl) h
    · replace h := h.2 c2
      refine a_iload_n (k := 2) dX8_put_22 rfl rfl ?_
      refine a_if_lt (tgt := 57) dX8_put_23 (by decide) (fun c3 => ?_) (fun c3 => ?_)
      · replace h := h.1 c3
        exact a_ret dX8_put_57 rfl (Nat.le_of_ble_eq_true rfl) (Nat.le_of_ble_eq_true rfl) h
      · replace h := h.2 c3
        refine a_iload_n (k := 2) dX8_put_26 rfl rfl ?_
        refine a_aload_n (k := 0) dX8_put_27 rfl rfl ?_
        refine gs_X8_9 rfl dX8_put_28 hg o0 ?_
        refine a_icmp_ge (tgt := 57) dX8_put_31 (by decide) (fun c4 => ?_) (fun c4 => ?_)
        · replace h := h.1 c4
          exact a_ret dX8_put_57 rfl (Nat.le_of_ble_eq_true rfl) (Nat.le_of_ble_eq_true rfl) h
        · replace h := h.2 c4
          refine a_iload (k := 4) dX8_put_34 rfl ?_
          refine a_if_lt (tgt := 57) dX8_put_36 (by decide) (fun c5 => ?_) (fun c5 => ?_)
          · replace h := h.1 c5
            exact a_ret dX8_put_57 rfl (Nat.le_of_ble_eq_true rfl) (Nat.le_of_ble_eq_true rfl) h
          · replace h := h.2 c5
            refine a_iload (k := 4) dX8_put_39 rfl ?_
            refine a_aload_n (k := 0) dX8_put_41 rfl rfl ?_
            refine gs_X8_21 rfl dX8_put_42 hg o0 ?_
            obtain ⟨q6, h⟩ := h
            refine a_alen (N := (SH (v0 + 1)).2) (t0 := 0) dX8_put_45 (by decide) q6 rfl (St_ho hg (st_8_1 o0)) ?_
            refine a_icmp_ge (tgt := 57) dX8_put_46 (by decide) (fun c7 => ?_) (fun c7 => ?_)
            · replace h := h.1 c7
              exact a_ret dX8_put_57 rfl (Nat.le_of_ble_eq_true rfl) (Nat.le_of_ble_eq_true rfl) h
            · replace h := h.2 c7
              refine a_aload_n (k := 0) dX8_put_49 rfl rfl ?_
              refine gs_X8_21 rfl dX8_put_50 hg o0 ?_
              refine a_iload (k := 4) dX8_put_53 rfl ?_
              refine a_iload_n (k := 3) dX8_put_55 rfl rfl ?_
              obtain ⟨q8, h⟩ := h
              refine a_iastore dX8_put_56 (St_ho hg (st_8_1 o0)) q8.1 q8.2 (FX_put hg (st_8_1 o0) rfl) ?_
              exact a_ret dX8_put_57 rfl (Nat.le_of_ble_eq_true rfl) (Nat.le_of_ble_eq_true rfl) h
theorem m_X8_addRow {G : GT} (hg : gx G = FX) {n : Nat} {μ : Mem} {Q : Int → Nat → Mem → Prop} {v0 : Int} (o0 : St v0 8 3) (h : ((inR ((μ v0 2) + 1)) ∧ ((inR (((μ v0 2) + 1) * (colsOf (SH (v0 + 1)).2))) ∧ (((SH (v0 + 1)).2 < 2147483648) ∧ (((((μ v0 2) + 1) * (colsOf (SH (v0 + 1)).2)) ≤ (((SH (v0 + 1)).2 : Nat) : Int) → ((inR ((μ v0 2) + 1)) ∧ ((inR (((up μ v0 2 ((μ v0 2) + 1)) v0 2) - 1)) ∧ (Q (((up μ v0 2 ((μ v0 2) + 1)) v0 2) - 1) n (up μ v0 2 ((μ v0 2) + 1)))))) ∧ (¬ ((((μ v0 2) + 1) * (colsOf (SH (v0 + 1)).2)) ≤ (((SH (v0 + 1)).2 : Nat) : Int)) → (Q (-1) n μ))))))) : CI G Y_X8_addRow [.inr v0] n μ Q := by
  refine e_I (by decide) (Nat.le_of_ble_eq_true rfl) ?_
  show Wa G Y_X8_addRow (ZI G Y_X8_addRow Q) 0 0 n μ 0 [(0, .inr v0)] []
  refine a_aload_n (k := 0) dX8_addRow_0 rfl rfl ?_
  refine g_X8_25 rfl dX8_addRow_1 (St_ho hg o0) ?_
  refine a_iconst dX8_addRow_4 (by decide) ?_
  obtain ⟨q1, h⟩ := h
  refine a_iadd dX8_addRow_5 q1 ?_
  refine a_aload_n (k := 0) dX8_addRow_6 rfl rfl ?_
  refine gs_X8_9 rfl dX8_addRow_7 hg o0 ?_
  obtain ⟨q2, h⟩ := h
  refine a_imul dX8_addRow_10 q2 ?_
  refine a_aload_n (k := 0) dX8_addRow_11 rfl rfl ?_
  refine gs_X8_21 rfl dX8_addRow_12 hg o0 ?_
  obtain ⟨q3, h⟩ := h
  refine a_alen (N := (SH (v0 + 1)).2) (t0 := 0) dX8_addRow_15 (by decide) q3 rfl (St_ho hg (st_8_1 o0)) ?_
  refine a_icmp_le (tgt := 21) dX8_addRow_16 (by decide) (fun c4 => ?_) (fun c4 => ?_)
  · replace h := h.1 c4
    refine a_aload_n (k := 0) dX8_addRow_21 rfl rfl ?_
    refine a_dup dX8_addRow_22 ?_
    refine g_X8_25 rfl dX8_addRow_23 (St_ho hg o0) ?_
    refine a_iconst dX8_addRow_26 (by decide) ?_
    obtain ⟨q5, h⟩ := h
    refine a_iadd dX8_addRow_27 q5 ?_
    refine p_X8_25 rfl dX8_addRow_28 (St_ho hg o0) (FX_put hg o0 rfl) ?_
    refine a_aload_n (k := 0) dX8_addRow_31 rfl rfl ?_
    refine g_X8_25 rfl dX8_addRow_32 (St_ho hg o0) ?_
    refine a_iconst dX8_addRow_35 (by decide) ?_
    obtain ⟨q6, h⟩ := h
    refine a_isub dX8_addRow_36 q6 ?_
    exact a_iret dX8_addRow_37 rfl (Nat.le_of_ble_eq_true rfl) (Nat.le_of_ble_eq_true rfl) h
  · replace h := h.2 c4
    refine a_iconst dX8_addRow_19 (by decide) ?_
    exact a_iret dX8_addRow_20 rfl (Nat.le_of_ble_eq_true rfl) (Nat.le_of_ble_eq_true rfl) h
theorem m_X8_cut {G : GT} (hg : gx G = FX) {n : Nat} {μ : Mem} {Q : Nat → Mem → Prop} {v0 v1 : Int} (o0 : St v0 8 3) (h : (Q n (up μ v0 2 (if 0 < (if v1 < μ v0 2 then v1 else μ v0 2) then (if v1 < μ v0 2 then v1 else μ v0 2) else 0)))) : CV G Y_X8_cut [.inr v0, .inl v1] n μ Q := by
  refine e_V (by decide) (Nat.le_of_ble_eq_true rfl) ?_
  show Wa G Y_X8_cut (ZV G Y_X8_cut Q) 0 0 n μ 0 [(0, .inr v0), (1, .inl v1)] []
  refine a_aload_n (k := 0) dX8_cut_0 rfl rfl ?_
  refine a_iconst dX8_cut_1 (by decide) ?_
  refine a_aload_n (k := 0) dX8_cut_2 rfl rfl ?_
  refine g_X8_25 rfl dX8_cut_3 (St_ho hg o0) ?_
  refine a_iload_n (k := 1) dX8_cut_6 rfl rfl ?_
  refine k_X8_28 rfl dX8_cut_7 (Nat.le_of_ble_eq_true rfl) rfl rfl (Nat.le_of_ble_eq_true rfl) (Nat.le_of_ble_eq_true rfl) ?_
  refine k_X8_15 rfl dX8_cut_10 (Nat.le_of_ble_eq_true rfl) rfl rfl (Nat.le_of_ble_eq_true rfl) (Nat.le_of_ble_eq_true rfl) ?_
  refine p_X8_25 rfl dX8_cut_13 (St_ho hg o0) (FX_put hg o0 rfl) ?_
  exact a_ret dX8_cut_16 rfl (Nat.le_of_ble_eq_true rfl) (Nat.le_of_ble_eq_true rfl) h
abbrev B_X8_removeFirstRow_2 (G : GT) (Q : Nat → Mem → Prop) (n : Nat) (μ : Mem) (v0 : Int) (v1 : Int) : Prop := Wa G Y_X8_removeFirstRow (ZV G Y_X8_removeFirstRow Q) 0 0 n μ 2 [(0, .inr v0), (1, .inl v1)] []
abbrev B_X8_removeFirstRow_12 (G : GT) (Q : Nat → Mem → Prop) (n : Nat) (μ : Mem) (v0 : Int) (v1 : Int) (v2 : Int) : Prop := Wa G Y_X8_removeFirstRow (ZV G Y_X8_removeFirstRow Q) 0 0 n μ 12 [(0, .inr v0), (1, .inl v1), (2, .inl v2)] []
theorem m_X8_removeFirstRow {G : GT} (hg : gx G = FX) {n : Nat} {μ : Mem} {Q : Nat → Mem → Prop} {v0 : Int} (o0 : St v0 8 3) (h : (B_X8_removeFirstRow_2 G Q n μ v0 1)) : CV G Y_X8_removeFirstRow [.inr v0] n μ Q := by
  refine e_V (by decide) (Nat.le_of_ble_eq_true rfl) ?_
  show Wa G Y_X8_removeFirstRow (ZV G Y_X8_removeFirstRow Q) 0 0 n μ 0 [(0, .inr v0)] []
  refine a_iconst dX8_removeFirstRow_0 (by decide) ?_
  refine b_istore_n (L' := [(0, .inr v0), (1, .inl 1)]) [1, 0] dX8_removeFirstRow_1 rfl (by decide) rfl ?_
  exact h
theorem b_X8_removeFirstRow_2 {G : GT} (hg : gx G = FX) {n : Nat} {μ : Mem} {Q : Nat → Mem → Prop} {v0 v1 : Int} (o0 : St v0 8 3) (h : (((μ v0 2) ≤ v1 → ((inR ((μ v0 2) - 1)) ∧ (CV G Y_X8_cut [.inr v0, .inl ((μ v0 2) - 1)] n μ (fun (n4 : Nat) (μ5 : Mem) => (Q n4 μ5))))) ∧ (¬ ((μ v0 2) ≤ v1) → (B_X8_removeFirstRow_12 G Q n μ v0 v1 0)))) : B_X8_removeFirstRow_2 G Q n μ v0 v1 := by
  show Wa G Y_X8_removeFirstRow (ZV G Y_X8_removeFirstRow Q) 0 0 n μ 2 [(0, .inr v0), (1, .inl v1)] []
  refine a_iload_n (k := 1) dX8_removeFirstRow_2 rfl rfl ?_
  refine a_aload_n (k := 0) dX8_removeFirstRow_3 rfl rfl ?_
  refine g_X8_25 rfl dX8_removeFirstRow_4 (St_ho hg o0) ?_
  refine a_icmp_ge (tgt := 46) dX8_removeFirstRow_7 (by decide) (fun c1 => ?_) (fun c1 => ?_)
  · replace h := h.1 c1
    refine a_aload_n (k := 0) dX8_removeFirstRow_46 rfl rfl ?_
    refine a_aload_n (k := 0) dX8_removeFirstRow_47 rfl rfl ?_
    refine g_X8_25 rfl dX8_removeFirstRow_48 (St_ho hg o0) ?_
    refine a_iconst dX8_removeFirstRow_51 (by decide) ?_
    obtain ⟨q2, h⟩ := h
    refine a_isub dX8_removeFirstRow_52 q2 ?_
    refine k_X8_38 rfl dX8_removeFirstRow_53 (Nat.le_of_ble_eq_true rfl) rfl (Nat.le_of_ble_eq_true rfl) (Nat.le_of_ble_eq_true rfl) (St_ho hg o0) h (fun n4 μ5 h => ?_)
    exact a_ret dX8_removeFirstRow_56 rfl (Nat.le_of_ble_eq_true rfl) (Nat.le_of_ble_eq_true rfl) h
  · replace h := h.2 c1
    refine a_iconst dX8_removeFirstRow_10 (by decide) ?_
    refine b_istore_n (L' := [(0, .inr v0), (1, .inl v1), (2, .inl 0)]) [1, 2, 0] dX8_removeFirstRow_11 rfl (by decide) rfl ?_
    exact h
theorem b_X8_removeFirstRow_12 {G : GT} (hg : gx G = FX) {n : Nat} {μ : Mem} {Q : Nat → Mem → Prop} {v0 v1 v2 : Int} (o0 : St v0 8 3) (h : (((colsOf (SH (v0 + 1)).2) ≤ v2 → ((inR (v1 + 1)) ∧ (B_X8_removeFirstRow_2 G Q n μ v0 (v1 + 1)))) ∧ (¬ ((colsOf (SH (v0 + 1)).2) ≤ v2) → ((inR (v1 - 1)) ∧ (CI G Y_X8_at [.inr v0, .inl v1, .inl v2] n μ (fun (x4 : Int) (n5 : Nat) (μ6 : Mem) => (CV G Y_X8_put [.inr v0, .inl (v1 - 1), .inl v2, .inl x4] n5 μ6 (fun (n8 : Nat) (μ9 : Mem) => ((inR (v2 + 1)) ∧ (B_X8_removeFirstRow_12 G Q n8 μ9 v0 v1 (v2 + 1))))))))))) : B_X8_removeFirstRow_12 G Q n μ v0 v1 v2 := by
  show Wa G Y_X8_removeFirstRow (ZV G Y_X8_removeFirstRow Q) 0 0 n μ 12 [(0, .inr v0), (1, .inl v1), (2, .inl v2)] []
  refine a_iload_n (k := 2) dX8_removeFirstRow_12 rfl rfl ?_
  refine a_aload_n (k := 0) dX8_removeFirstRow_13 rfl rfl ?_
  refine gs_X8_9 rfl dX8_removeFirstRow_14 hg o0 ?_
  refine a_icmp_ge (tgt := 40) dX8_removeFirstRow_17 (by decide) (fun c1 => ?_) (fun c1 => ?_)
  · replace h := h.1 c1
    obtain ⟨q2, h⟩ := h
    refine b_iinc (L' := [(0, .inr v0), (1, .inl (v1 + 1)), (2, .inl v2)]) (k := 1) [1, 0, 2] dX8_removeFirstRow_40 rfl q2 (by decide) rfl ?_
    refine a_goto (tgt := 2) dX8_removeFirstRow_43 (by decide) ?_
    refine a_sub [0, 1] rfl ?_
    exact h
  · replace h := h.2 c1
    refine a_aload_n (k := 0) dX8_removeFirstRow_20 rfl rfl ?_
    refine a_iload_n (k := 1) dX8_removeFirstRow_21 rfl rfl ?_
    refine a_iconst dX8_removeFirstRow_22 (by decide) ?_
    obtain ⟨q3, h⟩ := h
    refine a_isub dX8_removeFirstRow_23 q3 ?_
    refine a_iload_n (k := 2) dX8_removeFirstRow_24 rfl rfl ?_
    refine a_aload_n (k := 0) dX8_removeFirstRow_25 rfl rfl ?_
    refine a_iload_n (k := 1) dX8_removeFirstRow_26 rfl rfl ?_
    refine a_iload_n (k := 2) dX8_removeFirstRow_27 rfl rfl ?_
    refine k_X8_31 rfl dX8_removeFirstRow_28 (Nat.le_of_ble_eq_true rfl) rfl (Nat.le_of_ble_eq_true rfl) (Nat.le_of_ble_eq_true rfl) (St_ho hg o0) h (fun x4 n5 μ6 h => ?_)
    refine k_X8_34 rfl dX8_removeFirstRow_31 (Nat.le_of_ble_eq_true rfl) rfl (Nat.le_of_ble_eq_true rfl) (Nat.le_of_ble_eq_true rfl) (St_ho hg o0) h (fun n8 μ9 h => ?_)
    obtain ⟨q10, h⟩ := h
    refine b_iinc (L' := [(0, .inr v0), (1, .inl v1), (2, .inl (v2 + 1))]) (k := 2) [1, 2, 0] dX8_removeFirstRow_34 rfl q10 (by decide) rfl ?_
    refine a_goto (tgt := 12) dX8_removeFirstRow_37 (by decide) ?_
    exact h
theorem m_X8_copyFrom {G : GT} (hg : gx G = FX) {n : Nat} {μ : Mem} {Q : Nat → Mem → Prop} {v0 v1 : Int} (o0 : St v0 8 3) (o1 : St v1 8 3) (h : (CV G Y_X8_appendFrom [.inr v0, .inr v1] n (up μ v0 2 0) (fun (n2 : Nat) (μ3 : Mem) => (Q n2 μ3)))) : CV G Y_X8_copyFrom [.inr v0, .inr v1] n μ Q := by
  refine e_V (by decide) (Nat.le_of_ble_eq_true rfl) ?_
  show Wa G Y_X8_copyFrom (ZV G Y_X8_copyFrom Q) 0 0 n μ 0 [(0, .inr v0), (1, .inr v1)] []
  refine a_aload_n (k := 0) dX8_copyFrom_0 rfl rfl ?_
  refine a_iconst dX8_copyFrom_1 (by decide) ?_
  refine p_X8_25 rfl dX8_copyFrom_2 (St_ho hg o0) (FX_put hg o0 rfl) ?_
  refine a_aload_n (k := 0) dX8_copyFrom_5 rfl rfl ?_
  refine a_aload_n (k := 1) dX8_copyFrom_6 rfl rfl ?_
  refine k_X8_42 rfl dX8_copyFrom_7 (Nat.le_of_ble_eq_true rfl) rfl (Nat.le_of_ble_eq_true rfl) (Nat.le_of_ble_eq_true rfl) (St_ho hg o0) h (fun n2 μ3 h => ?_)
  exact a_ret dX8_copyFrom_10 rfl (Nat.le_of_ble_eq_true rfl) (Nat.le_of_ble_eq_true rfl) h
abbrev B_X8_appendFrom_2 (G : GT) (Q : Nat → Mem → Prop) (n : Nat) (μ : Mem) (v0 : Int) (v1 : Int) (v2 : Int) : Prop := Wa G Y_X8_appendFrom (ZV G Y_X8_appendFrom Q) 0 0 n μ 2 [(0, .inr v0), (1, .inr v1), (2, .inl v2)] []
abbrev B_X8_appendFrom_18 (G : GT) (Q : Nat → Mem → Prop) (n : Nat) (μ : Mem) (v0 : Int) (v1 : Int) (v2 : Int) (v3 : Int) (v4 : Int) : Prop := Wa G Y_X8_appendFrom (ZV G Y_X8_appendFrom Q) 0 0 n μ 18 [(0, .inr v0), (1, .inr v1), (2, .inl v2), (3, .inl v3), (4, .inl v4)] []
theorem m_X8_appendFrom {G : GT} (hg : gx G = FX) {n : Nat} {μ : Mem} {Q : Nat → Mem → Prop} {v0 v1 : Int} (o0 : St v0 8 3) (o1 : St v1 8 3) (h : (B_X8_appendFrom_2 G Q n μ v0 v1 0)) : CV G Y_X8_appendFrom [.inr v0, .inr v1] n μ Q := by
  refine e_V (by decide) (Nat.le_of_ble_eq_true rfl) ?_
  show Wa G Y_X8_appendFrom (ZV G Y_X8_appendFrom Q) 0 0 n μ 0 [(0, .inr v0), (1, .inr v1)] []
  refine a_iconst dX8_appendFrom_0 (by decide) ?_
  refine b_istore_n (L' := [(0, .inr v0), (1, .inr v1), (2, .inl 0)]) [1, 2, 0] dX8_appendFrom_1 rfl (by decide) rfl ?_
  exact h
theorem b_X8_appendFrom_2 {G : GT} (hg : gx G = FX) {n : Nat} {μ : Mem} {Q : Nat → Mem → Prop} {v0 v1 v2 : Int} (o0 : St v0 8 3) (o1 : St v1 8 3) (h : (((μ v1 2) ≤ v2 → (Q n μ)) ∧ (¬ ((μ v1 2) ≤ v2) → (CI G Y_X8_addRow [.inr v0] n μ (fun (x2 : Int) (n3 : Nat) (μ4 : Mem) => (B_X8_appendFrom_18 G Q n3 μ4 v0 v1 v2 x2 0)))))) : B_X8_appendFrom_2 G Q n μ v0 v1 v2 := by
  show Wa G Y_X8_appendFrom (ZV G Y_X8_appendFrom Q) 0 0 n μ 2 [(0, .inr v0), (1, .inr v1), (2, .inl v2)] []
  refine a_iload_n (k := 2) dX8_appendFrom_2 rfl rfl ?_
  refine a_aload_n (k := 1) dX8_appendFrom_3 rfl rfl ?_
  refine g_X8_25 rfl dX8_appendFrom_4 (St_ho hg o1) ?_
  refine a_icmp_ge (tgt := 53) dX8_appendFrom_7 (by decide) (fun c1 => ?_) (fun c1 => ?_)
  · replace h := h.1 c1
    exact a_ret dX8_appendFrom_53 rfl (Nat.le_of_ble_eq_true rfl) (Nat.le_of_ble_eq_true rfl) h
  · replace h := h.2 c1
    refine a_aload_n (k := 0) dX8_appendFrom_10 rfl rfl ?_
    refine k_X8_46 rfl dX8_appendFrom_11 (Nat.le_of_ble_eq_true rfl) rfl (Nat.le_of_ble_eq_true rfl) (Nat.le_of_ble_eq_true rfl) (St_ho hg o0) h (fun x2 n3 μ4 h => ?_)
    refine b_istore_n (L' := [(0, .inr v0), (1, .inr v1), (2, .inl v2), (3, .inl x2)]) [1, 2, 3, 0] dX8_appendFrom_14 rfl (by decide) rfl ?_
    refine a_iconst dX8_appendFrom_15 (by decide) ?_
    refine b_istore (L' := [(0, .inr v0), (1, .inr v1), (2, .inl v2), (3, .inl x2), (4, .inl 0)]) [1, 2, 3, 4, 0] dX8_appendFrom_16 (by decide) rfl ?_
    exact h
theorem b_X8_appendFrom_18 {G : GT} (hg : gx G = FX) {n : Nat} {μ : Mem} {Q : Nat → Mem → Prop} {v0 v1 v2 v3 v4 : Int} (o0 : St v0 8 3) (o1 : St v1 8 3) (h : (((colsOf (SH (v0 + 1)).2) ≤ v4 → ((inR (v2 + 1)) ∧ (B_X8_appendFrom_2 G Q n μ v0 v1 (v2 + 1)))) ∧ (¬ ((colsOf (SH (v0 + 1)).2) ≤ v4) → (CI G Y_X8_at [.inr v1, .inl v2, .inl v4] n μ (fun (x3 : Int) (n4 : Nat) (μ5 : Mem) => (CV G Y_X8_put [.inr v0, .inl v3, .inl v4, .inl x3] n4 μ5 (fun (n7 : Nat) (μ8 : Mem) => ((inR (v4 + 1)) ∧ (B_X8_appendFrom_18 G Q n7 μ8 v0 v1 v2 v3 (v4 + 1)))))))))) : B_X8_appendFrom_18 G Q n μ v0 v1 v2 v3 v4 := by
  show Wa G Y_X8_appendFrom (ZV G Y_X8_appendFrom Q) 0 0 n μ 18 [(0, .inr v0), (1, .inr v1), (2, .inl v2), (3, .inl v3), (4, .inl v4)] []
  refine a_iload (k := 4) dX8_appendFrom_18 rfl ?_
  refine a_aload_n (k := 0) dX8_appendFrom_20 rfl rfl ?_
  refine gs_X8_9 rfl dX8_appendFrom_21 hg o0 ?_
  refine a_icmp_ge (tgt := 47) dX8_appendFrom_24 (by decide) (fun c1 => ?_) (fun c1 => ?_)
  · replace h := h.1 c1
    obtain ⟨q2, h⟩ := h
    refine b_iinc (L' := [(0, .inr v0), (1, .inr v1), (2, .inl (v2 + 1)), (3, .inl v3), (4, .inl v4)]) (k := 2) [1, 2, 0, 3, 4] dX8_appendFrom_47 rfl q2 (by decide) rfl ?_
    refine a_goto (tgt := 2) dX8_appendFrom_50 (by decide) ?_
    refine a_sub [0, 1, 2] rfl ?_
    exact h
  · replace h := h.2 c1
    refine a_aload_n (k := 0) dX8_appendFrom_27 rfl rfl ?_
    refine a_iload_n (k := 3) dX8_appendFrom_28 rfl rfl ?_
    refine a_iload (k := 4) dX8_appendFrom_29 rfl ?_
    refine a_aload_n (k := 1) dX8_appendFrom_31 rfl rfl ?_
    refine a_iload_n (k := 2) dX8_appendFrom_32 rfl rfl ?_
    refine a_iload (k := 4) dX8_appendFrom_33 rfl ?_
    refine k_X8_31 rfl dX8_appendFrom_35 (Nat.le_of_ble_eq_true rfl) rfl (Nat.le_of_ble_eq_true rfl) (Nat.le_of_ble_eq_true rfl) (St_ho hg o1) h (fun x3 n4 μ5 h => ?_)
    refine k_X8_34 rfl dX8_appendFrom_38 (Nat.le_of_ble_eq_true rfl) rfl (Nat.le_of_ble_eq_true rfl) (Nat.le_of_ble_eq_true rfl) (St_ho hg o0) h (fun n7 μ8 h => ?_)
    obtain ⟨q9, h⟩ := h
    refine b_iinc (L' := [(0, .inr v0), (1, .inr v1), (2, .inl v2), (3, .inl v3), (4, .inl (v4 + 1))]) (k := 4) [1, 2, 3, 4, 0] dX8_appendFrom_41 rfl q9 (by decide) rfl ?_
    refine a_goto (tgt := 18) dX8_appendFrom_44 (by decide) ?_
    exact h
theorem m_X9_isFull {G : GT} (hg : gx G = FX) {n : Nat} {μ : Mem} {Q : Int → Nat → Mem → Prop}  (h : (((μ 1 1) < 150 → (Q 0 n μ)) ∧ (¬ ((μ 1 1) < 150) → (Q 1 n μ)))) : CI G Y_X9_isFull [.inr 1] n μ Q := by
  refine e_I (by decide) (Nat.le_of_ble_eq_true rfl) ?_
  show Wa G Y_X9_isFull (ZI G Y_X9_isFull Q) 0 0 n μ 0 [(0, .inr 1)] []
  refine a_aload_n (k := 0) dX9_isFull_0 rfl rfl ?_
  refine g_X9_15 rfl dX9_isFull_1 (St_ho hg St_1) ?_
  refine a_aload_n (k := 0) dX9_isFull_4 rfl rfl ?_
  refine gs_X9_9 rfl dX9_isFull_5 hg St_1 ?_
  refine a_alen (N := 150) (t0 := 0) dX9_isFull_8 (by decide) (by decide) rfl (St_ho hg (st_9_1 St_1)) ?_
  refine a_icmp_lt (tgt := 16) dX9_isFull_9 (by decide) (fun c1 => ?_) (fun c1 => ?_)
  · replace h := h.1 c1
    refine a_iconst dX9_isFull_16 (by decide) ?_
    exact a_zret dX9_isFull_17 rfl (Nat.le_of_ble_eq_true rfl) (Nat.le_of_ble_eq_true rfl) (by decide) h
  · replace h := h.2 c1
    refine a_iconst dX9_isFull_12 (by decide) ?_
    refine a_goto (tgt := 17) dX9_isFull_13 (by decide) ?_
    exact a_zret dX9_isFull_17 rfl (Nat.le_of_ble_eq_true rfl) (Nat.le_of_ble_eq_true rfl) (by decide) h
theorem m_X9_append {G : GT} (hg : gx G = FX) {n : Nat} {μ : Mem} {Q : Nat → Mem → Prop} {v1 : Int}  (h : (((μ 1 1) < 0 → (Q n μ)) ∧ (¬ ((μ 1 1) < 0) → ((150 ≤ (μ 1 1) → (Q n μ)) ∧ (¬ (150 ≤ (μ 1 1)) → (((0 : Int) ≤ μ 1 1 ∧ μ 1 1 < 150) ∧ ((inR (((up μ 2 (μ 1 1) v1) 1 1) + 1)) ∧ (Q n (up (up μ 2 (μ 1 1) v1) 1 1 (((up μ 2 (μ 1 1) v1) 1 1) + 1)))))))))) : CV G Y_X9_append [.inr 1, .inl v1] n μ Q := by
  refine e_V (by decide) (Nat.le_of_ble_eq_true rfl) ?_
  show Wa G Y_X9_append (ZV G Y_X9_append Q) 0 0 n μ 0 [(0, .inr 1), (1, .inl v1)] []
  refine a_aload_n (k := 0) dX9_append_0 rfl rfl ?_
  refine g_X9_15 rfl dX9_append_1 (St_ho hg St_1) ?_
  refine a_if_lt (tgt := 39) dX9_append_4 (by decide) (fun c1 => ?_) (fun c1 => ?_)
  · replace h := h.1 c1
    exact a_ret dX9_append_39 rfl (Nat.le_of_ble_eq_true rfl) (Nat.le_of_ble_eq_true rfl) h
  · replace h := h.2 c1
    refine a_aload_n (k := 0) dX9_append_7 rfl rfl ?_
    refine g_X9_15 rfl dX9_append_8 (St_ho hg St_1) ?_
    refine a_aload_n (k := 0) dX9_append_11 rfl rfl ?_
    refine gs_X9_9 rfl dX9_append_12 hg St_1 ?_
    refine a_alen (N := 150) (t0 := 0) dX9_append_15 (by decide) (by decide) rfl (St_ho hg (st_9_1 St_1)) ?_
    refine a_icmp_ge (tgt := 39) dX9_append_16 (by decide) (fun c2 => ?_) (fun c2 => ?_)
    · replace h := h.1 c2
      exact a_ret dX9_append_39 rfl (Nat.le_of_ble_eq_true rfl) (Nat.le_of_ble_eq_true rfl) h
    · replace h := h.2 c2
      refine a_aload_n (k := 0) dX9_append_19 rfl rfl ?_
      refine gs_X9_9 rfl dX9_append_20 hg St_1 ?_
      refine a_aload_n (k := 0) dX9_append_23 rfl rfl ?_
      refine g_X9_15 rfl dX9_append_24 (St_ho hg St_1) ?_
      refine a_iload_n (k := 1) dX9_append_27 rfl rfl ?_
      obtain ⟨q3, h⟩ := h
      refine a_iastore dX9_append_28 (St_ho hg (st_9_1 St_1)) q3.1 q3.2 (FX_put hg (st_9_1 St_1) rfl) ?_
      refine a_aload_n (k := 0) dX9_append_29 rfl rfl ?_
      refine a_dup dX9_append_30 ?_
      refine g_X9_15 rfl dX9_append_31 (St_ho hg St_1) ?_
      refine a_iconst dX9_append_34 (by decide) ?_
      obtain ⟨q4, h⟩ := h
      refine a_iadd dX9_append_35 q4 ?_
      refine p_X9_15 rfl dX9_append_36 (St_ho hg St_1) (FX_put hg St_1 rfl) ?_
      exact a_ret dX9_append_39 rfl (Nat.le_of_ble_eq_true rfl) (Nat.le_of_ble_eq_true rfl) h
theorem m_X9_empty {G : GT} (hg : gx G = FX) {n : Nat} {μ : Mem} {Q : Nat → Mem → Prop}  (h : (Q n (up μ 1 1 0))) : CV G Y_X9_empty [.inr 1] n μ Q := by
  refine e_V (by decide) (Nat.le_of_ble_eq_true rfl) ?_
  show Wa G Y_X9_empty (ZV G Y_X9_empty Q) 0 0 n μ 0 [(0, .inr 1)] []
  refine a_aload_n (k := 0) dX9_empty_0 rfl rfl ?_
  refine a_iconst dX9_empty_1 (by decide) ?_
  refine p_X9_15 rfl dX9_empty_2 (St_ho hg St_1) (FX_put hg St_1 rfl) ?_
  exact a_ret dX9_empty_5 rfl (Nat.le_of_ble_eq_true rfl) (Nat.le_of_ble_eq_true rfl) h
theorem m_X9_byteAt {G : GT} (hg : gx G = FX) {n : Nat} {μ : Mem} {Q : Int → Nat → Mem → Prop} {v1 : Int}  (h : ((v1 < 0 → (Q (-9) n μ)) ∧ (¬ (v1 < 0) → (((μ 1 1) ≤ v1 → (Q (-9) n μ)) ∧ (¬ ((μ 1 1) ≤ v1) → ((v1 < 150 → (((0 : Int) ≤ v1 ∧ v1 < 150) ∧ (Q (μ 2 v1) n μ))) ∧ (¬ (v1 < 150) → (Q (-9) n μ)))))))) : CI G Y_X9_byteAt [.inr 1, .inl v1] n μ Q := by
  refine e_I (by decide) (Nat.le_of_ble_eq_true rfl) ?_
  show Wa G Y_X9_byteAt (ZI G Y_X9_byteAt Q) 0 0 n μ 0 [(0, .inr 1), (1, .inl v1)] []
  refine a_iload_n (k := 1) dX9_byteAt_0 rfl rfl ?_
  refine a_if_lt (tgt := 21) dX9_byteAt_1 (by decide) (fun c1 => ?_) (fun c1 => ?_)
  · replace h := h.1 c1
    refine a_bipush dX9_byteAt_21 (by decide) (by decide) ?_
    exact a_iret dX9_byteAt_23 rfl (Nat.le_of_ble_eq_true rfl) (Nat.le_of_ble_eq_true rfl) h
  · replace h := h.2 c1
    refine a_iload_n (k := 1) dX9_byteAt_4 rfl rfl ?_
    refine a_aload_n (k := 0) dX9_byteAt_5 rfl rfl ?_
    refine g_X9_15 rfl dX9_byteAt_6 (St_ho hg St_1) ?_
    refine a_icmp_ge (tgt := 21) dX9_byteAt_9 (by decide) (fun c2 => ?_) (fun c2 => ?_)
    · replace h := h.1 c2
      refine a_bipush dX9_byteAt_21 (by decide) (by decide) ?_
      exact a_iret dX9_byteAt_23 rfl (Nat.le_of_ble_eq_true rfl) (Nat.le_of_ble_eq_true rfl) h
    · replace h := h.2 c2
      refine a_iload_n (k := 1) dX9_byteAt_12 rfl rfl ?_
      refine a_aload_n (k := 0) dX9_byteAt_13 rfl rfl ?_
      refine gs_X9_9 rfl dX9_byteAt_14 hg St_1 ?_
      refine a_alen (N := 150) (t0 := 0) dX9_byteAt_17 (by decide) (by decide) rfl (St_ho hg (st_9_1 St_1)) ?_
      refine a_icmp_lt (tgt := 24) dX9_byteAt_18 (by decide) (fun c3 => ?_) (fun c3 => ?_)
      · replace h := h.1 c3
        refine a_aload_n (k := 0) dX9_byteAt_24 rfl rfl ?_
        refine gs_X9_9 rfl dX9_byteAt_25 hg St_1 ?_
        refine a_iload_n (k := 1) dX9_byteAt_28 rfl rfl ?_
        obtain ⟨q4, h⟩ := h
        refine a_iaload dX9_byteAt_29 (St_ho hg (st_9_1 St_1)) q4.1 q4.2 ?_
        exact a_iret dX9_byteAt_30 rfl (Nat.le_of_ble_eq_true rfl) (Nat.le_of_ble_eq_true rfl) h
      · replace h := h.2 c3
        refine a_bipush dX9_byteAt_21 (by decide) (by decide) ?_
        exact a_iret dX9_byteAt_23 rfl (Nat.le_of_ble_eq_true rfl) (Nat.le_of_ble_eq_true rfl) h
theorem m_X1_ticksFor {G : GT} (hg : gx G = FX) {n : Nat} {μ : Mem} {Q : Int → Nat → Mem → Prop} {v0 v1 : Int}  (h : ((Co n v0) ∧ ((1 ≤ (μ v0 4) → ((Co n v0) ∧ ((inR (v1 + (μ v0 4))) ∧ ((inR ((v1 + (μ v0 4)) - 1)) ∧ ((Co n v0) ∧ (((0 : Int) ≤ (v1 + (μ v0 4)) - 1 ∧ (0 : Int) < μ v0 4) ∧ (Q (((v1 + (μ v0 4)) - 1) / (μ v0 4)) n μ))))))) ∧ (¬ (1 ≤ (μ v0 4)) → (Q 1000 n μ))))) : CI G Y_X1_ticksFor [.inr v0, .inl v1] n μ Q := by
  refine e_I (by decide) (Nat.le_of_ble_eq_true rfl) ?_
  show Wa G Y_X1_ticksFor (ZI G Y_X1_ticksFor Q) 0 0 n μ 0 [(0, .inr v0), (1, .inl v1)] []
  refine a_aload_n (k := 0) dX1_ticksFor_0 rfl rfl ?_
  obtain ⟨q1, h⟩ := h
  refine g_X1_24 rfl dX1_ticksFor_1 (fun _ => q1) ?_
  refine a_iconst dX1_ticksFor_4 (by decide) ?_
  refine a_icmp_ge (tgt := 14) dX1_ticksFor_5 (by decide) (fun c2 => ?_) (fun c2 => ?_)
  · replace h := h.1 c2
    refine a_iload_n (k := 1) dX1_ticksFor_14 rfl rfl ?_
    refine a_aload_n (k := 0) dX1_ticksFor_15 rfl rfl ?_
    obtain ⟨q3, h⟩ := h
    refine g_X1_24 rfl dX1_ticksFor_16 (fun _ => q3) ?_
    obtain ⟨q4, h⟩ := h
    refine a_iadd dX1_ticksFor_19 q4 ?_
    refine a_iconst dX1_ticksFor_20 (by decide) ?_
    obtain ⟨q5, h⟩ := h
    refine a_isub dX1_ticksFor_21 q5 ?_
    refine a_aload_n (k := 0) dX1_ticksFor_22 rfl rfl ?_
    obtain ⟨q6, h⟩ := h
    refine g_X1_24 rfl dX1_ticksFor_23 (fun _ => q6) ?_
    obtain ⟨q7, h⟩ := h
    refine a_idiv dX1_ticksFor_26 q7.1 q7.2 ?_
    exact a_iret dX1_ticksFor_27 rfl (Nat.le_of_ble_eq_true rfl) (Nat.le_of_ble_eq_true rfl) h
  · replace h := h.2 c2
    refine a_sipush dX1_ticksFor_8 (by decide) (by decide) ?_
    refine a_goto (tgt := 27) dX1_ticksFor_11 (by decide) ?_
    exact a_iret dX1_ticksFor_27 rfl (Nat.le_of_ble_eq_true rfl) (Nat.le_of_ble_eq_true rfl) h
theorem m_X1_property {G : GT} (hg : gx G = FX) {n : Nat} {μ : Mem} {Q : Int → Nat → Mem → Prop} {v0 v1 : Int}  (h : (((v1 < 0 ∨ 5 < v1) → (Q (-1) n μ)) ∧ (v1 = 0 → ((Co n v0) ∧ (Q (μ v0 0) n μ))) ∧ (v1 = 1 → ((Co n v0) ∧ (Q (μ v0 1) n μ))) ∧ (v1 = 2 → ((Co n v0) ∧ (Q (μ v0 2) n μ))) ∧ (v1 = 3 → ((Co n v0) ∧ (Q (μ v0 3) n μ))) ∧ (v1 = 4 → ((Co n v0) ∧ (Q (μ v0 4) n μ))) ∧ (v1 = 5 → ((Co n v0) ∧ (Q (μ v0 5) n μ))))) : CI G Y_X1_property [.inr v0, .inl v1] n μ Q := by
  refine e_I (by decide) (Nat.le_of_ble_eq_true rfl) ?_
  show Wa G Y_X1_property (ZI G Y_X1_property Q) 0 0 n μ 0 [(0, .inr v0), (1, .inl v1)] []
  refine a_iload_n (k := 1) dX1_property_0 rfl rfl ?_
  refine a_table (tgt := 70) dX1_property_1 (by decide) (fun c1 c2 => ?_) (fun c1 => ?_)
  · rcases (show v1 = 0 ∨ v1 = 1 ∨ v1 = 2 ∨ v1 = 3 ∨ v1 = 4 ∨ v1 = 5 by omega) with e3 | e3 | e3 | e3 | e3 | e3
    · replace h := h.2.1 e3
      refine ⟨39, 40, by rw [e3]; rfl, by decide, ?_⟩
      refine a_aload_n (k := 0) dX1_property_40 rfl rfl ?_
      obtain ⟨q4, h⟩ := h
      refine g_X1_9 rfl dX1_property_41 (fun _ => q4) ?_
      exact a_iret dX1_property_44 rfl (Nat.le_of_ble_eq_true rfl) (Nat.le_of_ble_eq_true rfl) h
    · replace h := h.2.2.1 e3
      refine ⟨44, 45, by rw [e3]; rfl, by decide, ?_⟩
      refine a_aload_n (k := 0) dX1_property_45 rfl rfl ?_
      obtain ⟨q5, h⟩ := h
      refine g_X1_15 rfl dX1_property_46 (fun _ => q5) ?_
      exact a_iret dX1_property_49 rfl (Nat.le_of_ble_eq_true rfl) (Nat.le_of_ble_eq_true rfl) h
    · replace h := h.2.2.2.1 e3
      refine ⟨49, 50, by rw [e3]; rfl, by decide, ?_⟩
      refine a_aload_n (k := 0) dX1_property_50 rfl rfl ?_
      obtain ⟨q6, h⟩ := h
      refine g_X1_18 rfl dX1_property_51 (fun _ => q6) ?_
      exact a_iret dX1_property_54 rfl (Nat.le_of_ble_eq_true rfl) (Nat.le_of_ble_eq_true rfl) h
    · replace h := h.2.2.2.2.1 e3
      refine ⟨54, 55, by rw [e3]; rfl, by decide, ?_⟩
      refine a_aload_n (k := 0) dX1_property_55 rfl rfl ?_
      obtain ⟨q7, h⟩ := h
      refine g_X1_21 rfl dX1_property_56 (fun _ => q7) ?_
      exact a_iret dX1_property_59 rfl (Nat.le_of_ble_eq_true rfl) (Nat.le_of_ble_eq_true rfl) h
    · replace h := h.2.2.2.2.2.1 e3
      refine ⟨59, 60, by rw [e3]; rfl, by decide, ?_⟩
      refine a_aload_n (k := 0) dX1_property_60 rfl rfl ?_
      obtain ⟨q8, h⟩ := h
      refine g_X1_24 rfl dX1_property_61 (fun _ => q8) ?_
      exact a_iret dX1_property_64 rfl (Nat.le_of_ble_eq_true rfl) (Nat.le_of_ble_eq_true rfl) h
    · replace h := h.2.2.2.2.2.2 e3
      refine ⟨64, 65, by rw [e3]; rfl, by decide, ?_⟩
      refine a_aload_n (k := 0) dX1_property_65 rfl rfl ?_
      obtain ⟨q9, h⟩ := h
      refine g_X1_27 rfl dX1_property_66 (fun _ => q9) ?_
      exact a_iret dX1_property_69 rfl (Nat.le_of_ble_eq_true rfl) (Nat.le_of_ble_eq_true rfl) h
  · replace h := h.1 c1
    refine a_iconst dX1_property_70 (by decide) ?_
    exact a_iret dX1_property_71 rfl (Nat.le_of_ble_eq_true rfl) (Nat.le_of_ble_eq_true rfl) h
theorem m_J6_bitCount_0f7a4 {G : GT} (hg : gx G = FX) {n : Nat} {μ : Mem} {Q : Int → Nat → Mem → Prop} {v0 : Int}  (h : ((inR (v0 - (iAnd (iUshr v0 1) 1431655765))) ∧ ((inR ((iAnd (v0 - (iAnd (iUshr v0 1) 1431655765)) 858993459) + (iAnd (iUshr (v0 - (iAnd (iUshr v0 1) 1431655765)) 2) 858993459))) ∧ ((inR (((iAnd (v0 - (iAnd (iUshr v0 1) 1431655765)) 858993459) + (iAnd (iUshr (v0 - (iAnd (iUshr v0 1) 1431655765)) 2) 858993459)) + (iUshr ((iAnd (v0 - (iAnd (iUshr v0 1) 1431655765)) 858993459) + (iAnd (iUshr (v0 - (iAnd (iUshr v0 1) 1431655765)) 2) 858993459)) 4))) ∧ ((inR ((iAnd (((iAnd (v0 - (iAnd (iUshr v0 1) 1431655765)) 858993459) + (iAnd (iUshr (v0 - (iAnd (iUshr v0 1) 1431655765)) 2) 858993459)) + (iUshr ((iAnd (v0 - (iAnd (iUshr v0 1) 1431655765)) 858993459) + (iAnd (iUshr (v0 - (iAnd (iUshr v0 1) 1431655765)) 2) 858993459)) 4)) 252645135) + (iUshr (iAnd (((iAnd (v0 - (iAnd (iUshr v0 1) 1431655765)) 858993459) + (iAnd (iUshr (v0 - (iAnd (iUshr v0 1) 1431655765)) 2) 858993459)) + (iUshr ((iAnd (v0 - (iAnd (iUshr v0 1) 1431655765)) 858993459) + (iAnd (iUshr (v0 - (iAnd (iUshr v0 1) 1431655765)) 2) 858993459)) 4)) 252645135) 8))) ∧ ((inR (((iAnd (((iAnd (v0 - (iAnd (iUshr v0 1) 1431655765)) 858993459) + (iAnd (iUshr (v0 - (iAnd (iUshr v0 1) 1431655765)) 2) 858993459)) + (iUshr ((iAnd (v0 - (iAnd (iUshr v0 1) 1431655765)) 858993459) + (iAnd (iUshr (v0 - (iAnd (iUshr v0 1) 1431655765)) 2) 858993459)) 4)) 252645135) + (iUshr (iAnd (((iAnd (v0 - (iAnd (iUshr v0 1) 1431655765)) 858993459) + (iAnd (iUshr (v0 - (iAnd (iUshr v0 1) 1431655765)) 2) 858993459)) + (iUshr ((iAnd (v0 - (iAnd (iUshr v0 1) 1431655765)) 858993459) + (iAnd (iUshr (v0 - (iAnd (iUshr v0 1) 1431655765)) 2) 858993459)) 4)) 252645135) 8)) + (iUshr ((iAnd (((iAnd (v0 - (iAnd (iUshr v0 1) 1431655765)) 858993459) + (iAnd (iUshr (v0 - (iAnd (iUshr v0 1) 1431655765)) 2) 858993459)) + (iUshr ((iAnd (v0 - (iAnd (iUshr v0 1) 1431655765)) 858993459) + (iAnd (iUshr (v0 - (iAnd (iUshr v0 1) 1431655765)) 2) 858993459)) 4)) 252645135) + (iUshr (iAnd (((iAnd (v0 - (iAnd (iUshr v0 1) 1431655765)) 858993459) + (iAnd (iUshr (v0 - (iAnd (iUshr v0 1) 1431655765)) 2) 858993459)) + (iUshr ((iAnd (v0 - (iAnd (iUshr v0 1) 1431655765)) 858993459) + (iAnd (iUshr (v0 - (iAnd (iUshr v0 1) 1431655765)) 2) 858993459)) 4)) 252645135) 8)) 16))) ∧ (Q (iAnd (((iAnd (((iAnd (v0 - (iAnd (iUshr v0 1) 1431655765)) 858993459) + (iAnd (iUshr (v0 - (iAnd (iUshr v0 1) 1431655765)) 2) 858993459)) + (iUshr ((iAnd (v0 - (iAnd (iUshr v0 1) 1431655765)) 858993459) + (iAnd (iUshr (v0 - (iAnd (iUshr v0 1) 1431655765)) 2) 858993459)) 4)) 252645135) + (iUshr (iAnd (((iAnd (v0 - (iAnd (iUshr v0 1) 1431655765)) 858993459) + (iAnd (iUshr (v0 - (iAnd (iUshr v0 1) 1431655765)) 2) 858993459)) + (iUshr ((iAnd (v0 - (iAnd (iUshr v0 1) 1431655765)) 858993459) + (iAnd (iUshr (v0 - (iAnd (iUshr v0 1) 1431655765)) 2) 858993459)) 4)) 252645135) 8)) + (iUshr ((iAnd (((iAnd (v0 - (iAnd (iUshr v0 1) 1431655765)) 858993459) + (iAnd (iUshr (v0 - (iAnd (iUshr v0 1) 1431655765)) 2) 858993459)) + (iUshr ((iAnd (v0 - (iAnd (iUshr v0 1) 1431655765)) 858993459) + (iAnd (iUshr (v0 - (iAnd (iUshr v0 1) 1431655765)) 2) 858993459)) 4)) 252645135) + (iUshr (iAnd (((iAnd (v0 - (iAnd (iUshr v0 1) 1431655765)) 858993459) + (iAnd (iUshr (v0 - (iAnd (iUshr v0 1) 1431655765)) 2) 858993459)) + (iUshr ((iAnd (v0 - (iAnd (iUshr v0 1) 1431655765)) 858993459) + (iAnd (iUshr (v0 - (iAnd (iUshr v0 1) 1431655765)) 2) 858993459)) 4)) 252645135) 8)) 16)) 63) n μ))))))) : CI G Y_J6_bitCount_0f7a4 [.inl v0] n μ Q := by
  refine e_I (by decide) (Nat.le_of_ble_eq_true rfl) ?_
  show Wa G Y_J6_bitCount_0f7a4 (ZI G Y_J6_bitCount_0f7a4 Q) 0 0 n μ 0 [(0, .inl v0)] []
  refine a_iload_n (k := 0) dJ6_bitCount_0f7a4_0 rfl rfl ?_
  refine a_iload_n (k := 0) dJ6_bitCount_0f7a4_1 rfl rfl ?_
  refine a_iconst dJ6_bitCount_0f7a4_2 (by decide) ?_
  refine a_iushr dJ6_bitCount_0f7a4_3 ?_
  refine a_ldcw (k := 1431655765) dJ6_bitCount_0f7a4_4 co_265 (by decide) ?_
  refine a_iand dJ6_bitCount_0f7a4_7 ?_
  obtain ⟨q1, h⟩ := h
  refine a_isub dJ6_bitCount_0f7a4_8 q1 ?_
  refine b_istore_n (L' := [(0, .inl (v0 - (iAnd (iUshr v0 1) 1431655765)))]) [0] dJ6_bitCount_0f7a4_9 rfl (by decide) rfl ?_
  refine a_iload_n (k := 0) dJ6_bitCount_0f7a4_10 rfl rfl ?_
  refine a_ldcw (k := 858993459) dJ6_bitCount_0f7a4_11 co_266 (by decide) ?_
  refine a_iand dJ6_bitCount_0f7a4_14 ?_
  refine a_iload_n (k := 0) dJ6_bitCount_0f7a4_15 rfl rfl ?_
  refine a_iconst dJ6_bitCount_0f7a4_16 (by decide) ?_
  refine a_iushr dJ6_bitCount_0f7a4_17 ?_
  refine a_ldcw (k := 858993459) dJ6_bitCount_0f7a4_18 co_266 (by decide) ?_
  refine a_iand dJ6_bitCount_0f7a4_21 ?_
  obtain ⟨q2, h⟩ := h
  refine a_iadd dJ6_bitCount_0f7a4_22 q2 ?_
  refine b_istore_n (L' := [(0, .inl ((iAnd (v0 - (iAnd (iUshr v0 1) 1431655765)) 858993459) + (iAnd (iUshr (v0 - (iAnd (iUshr v0 1) 1431655765)) 2) 858993459)))]) [0] dJ6_bitCount_0f7a4_23 rfl (by decide) rfl ?_
  refine a_iload_n (k := 0) dJ6_bitCount_0f7a4_24 rfl rfl ?_
  refine a_iload_n (k := 0) dJ6_bitCount_0f7a4_25 rfl rfl ?_
  refine a_iconst dJ6_bitCount_0f7a4_26 (by decide) ?_
  refine a_iushr dJ6_bitCount_0f7a4_27 ?_
  obtain ⟨q3, h⟩ := h
  refine a_iadd dJ6_bitCount_0f7a4_28 q3 ?_
  refine a_ldcw (k := 252645135) dJ6_bitCount_0f7a4_29 co_267 (by decide) ?_
  refine a_iand dJ6_bitCount_0f7a4_32 ?_
  refine b_istore_n (L' := [(0, .inl (iAnd (((iAnd (v0 - (iAnd (iUshr v0 1) 1431655765)) 858993459) + (iAnd (iUshr (v0 - (iAnd (iUshr v0 1) 1431655765)) 2) 858993459)) + (iUshr ((iAnd (v0 - (iAnd (iUshr v0 1) 1431655765)) 858993459) + (iAnd (iUshr (v0 - (iAnd (iUshr v0 1) 1431655765)) 2) 858993459)) 4)) 252645135))]) [0] dJ6_bitCount_0f7a4_33 rfl (by decide) rfl ?_
  refine a_iload_n (k := 0) dJ6_bitCount_0f7a4_34 rfl rfl ?_
  refine a_iload_n (k := 0) dJ6_bitCount_0f7a4_35 rfl rfl ?_
  refine a_bipush dJ6_bitCount_0f7a4_36 (by decide) (by decide) ?_
  refine a_iushr dJ6_bitCount_0f7a4_38 ?_
  obtain ⟨q4, h⟩ := h
  refine a_iadd dJ6_bitCount_0f7a4_39 q4 ?_
  refine b_istore_n (L' := [(0, .inl ((iAnd (((iAnd (v0 - (iAnd (iUshr v0 1) 1431655765)) 858993459) + (iAnd (iUshr (v0 - (iAnd (iUshr v0 1) 1431655765)) 2) 858993459)) + (iUshr ((iAnd (v0 - (iAnd (iUshr v0 1) 1431655765)) 858993459) + (iAnd (iUshr (v0 - (iAnd (iUshr v0 1) 1431655765)) 2) 858993459)) 4)) 252645135) + (iUshr (iAnd (((iAnd (v0 - (iAnd (iUshr v0 1) 1431655765)) 858993459) + (iAnd (iUshr (v0 - (iAnd (iUshr v0 1) 1431655765)) 2) 858993459)) + (iUshr ((iAnd (v0 - (iAnd (iUshr v0 1) 1431655765)) 858993459) + (iAnd (iUshr (v0 - (iAnd (iUshr v0 1) 1431655765)) 2) 858993459)) 4)) 252645135) 8)))]) [0] dJ6_bitCount_0f7a4_40 rfl (by decide) rfl ?_
  refine a_iload_n (k := 0) dJ6_bitCount_0f7a4_41 rfl rfl ?_
  refine a_iload_n (k := 0) dJ6_bitCount_0f7a4_42 rfl rfl ?_
  refine a_bipush dJ6_bitCount_0f7a4_43 (by decide) (by decide) ?_
  refine a_iushr dJ6_bitCount_0f7a4_45 ?_
  obtain ⟨q5, h⟩ := h
  refine a_iadd dJ6_bitCount_0f7a4_46 q5 ?_
  refine b_istore_n (L' := [(0, .inl (((iAnd (((iAnd (v0 - (iAnd (iUshr v0 1) 1431655765)) 858993459) + (iAnd (iUshr (v0 - (iAnd (iUshr v0 1) 1431655765)) 2) 858993459)) + (iUshr ((iAnd (v0 - (iAnd (iUshr v0 1) 1431655765)) 858993459) + (iAnd (iUshr (v0 - (iAnd (iUshr v0 1) 1431655765)) 2) 858993459)) 4)) 252645135) + (iUshr (iAnd (((iAnd (v0 - (iAnd (iUshr v0 1) 1431655765)) 858993459) + (iAnd (iUshr (v0 - (iAnd (iUshr v0 1) 1431655765)) 2) 858993459)) + (iUshr ((iAnd (v0 - (iAnd (iUshr v0 1) 1431655765)) 858993459) + (iAnd (iUshr (v0 - (iAnd (iUshr v0 1) 1431655765)) 2) 858993459)) 4)) 252645135) 8)) + (iUshr ((iAnd (((iAnd (v0 - (iAnd (iUshr v0 1) 1431655765)) 858993459) + (iAnd (iUshr (v0 - (iAnd (iUshr v0 1) 1431655765)) 2) 858993459)) + (iUshr ((iAnd (v0 - (iAnd (iUshr v0 1) 1431655765)) 858993459) + (iAnd (iUshr (v0 - (iAnd (iUshr v0 1) 1431655765)) 2) 858993459)) 4)) 252645135) + (iUshr (iAnd (((iAnd (v0 - (iAnd (iUshr v0 1) 1431655765)) 858993459) + (iAnd (iUshr (v0 - (iAnd (iUshr v0 1) 1431655765)) 2) 858993459)) + (iUshr ((iAnd (v0 - (iAnd (iUshr v0 1) 1431655765)) 858993459) + (iAnd (iUshr (v0 - (iAnd (iUshr v0 1) 1431655765)) 2) 858993459)) 4)) 252645135) 8)) 16)))]) [0] dJ6_bitCount_0f7a4_47 rfl (by decide) rfl ?_
  refine a_iload_n (k := 0) dJ6_bitCount_0f7a4_48 rfl rfl ?_
  refine a_bipush dJ6_bitCount_0f7a4_49 (by decide) (by decide) ?_
  refine a_iand dJ6_bitCount_0f7a4_51 ?_
  exact a_iret dJ6_bitCount_0f7a4_52 rfl (Nat.le_of_ble_eq_true rfl) (Nat.le_of_ble_eq_true rfl) h
end
section
-- 081.class: decode rows and blocks (by program, wip/gen)
theorem dX3_reset_0 : decode cX3_reset 0 = .ok (.aload_n 0, 1) := by decide +kernel
theorem dX3_reset_1 : decode cX3_reset 1 = .ok (.iconst 0, 1) := by decide +kernel
theorem dX3_reset_2 : decode cX3_reset 2 = .ok (.putfield 24, 3) := by decide +kernel
theorem dX3_reset_5 : decode cX3_reset 5 = .ok (.aload_n 0, 1) := by decide +kernel
theorem dX3_reset_6 : decode cX3_reset 6 = .ok (.iconst 2, 1) := by decide +kernel
theorem dX3_reset_7 : decode cX3_reset 7 = .ok (.putfield 28, 3) := by decide +kernel
theorem dX3_reset_10 : decode cX3_reset 10 = .ok (.return_, 1) := by decide +kernel
theorem dX3_hasNode_0 : decode cX3_hasNode 0 = .ok (.iload_n 1, 1) := by decide +kernel
theorem dX3_hasNode_1 : decode cX3_hasNode 1 = .ok (.ifCond .lt 15, 3) := by decide +kernel
theorem dX3_hasNode_4 : decode cX3_hasNode 4 = .ok (.iload_n 1, 1) := by decide +kernel
theorem dX3_hasNode_5 : decode cX3_hasNode 5 = .ok (.aload_n 0, 1) := by decide +kernel
theorem dX3_hasNode_6 : decode cX3_hasNode 6 = .ok (.getfield 28, 3) := by decide +kernel
theorem dX3_hasNode_9 : decode cX3_hasNode 9 = .ok (.if_icmp .ge 7, 3) := by decide +kernel
theorem dX3_hasNode_12 : decode cX3_hasNode 12 = .ok (.iconst 1, 1) := by decide +kernel
theorem dX3_hasNode_13 : decode cX3_hasNode 13 = .ok (.goto 4, 3) := by decide +kernel
theorem dX3_hasNode_16 : decode cX3_hasNode 16 = .ok (.iconst 0, 1) := by decide +kernel
theorem dX3_hasNode_17 : decode cX3_hasNode 17 = .ok (.ireturn, 1) := by decide +kernel
theorem dX3_hasContact_0 : decode cX3_hasContact 0 = .ok (.iload_n 1, 1) := by decide +kernel
theorem dX3_hasContact_1 : decode cX3_hasContact 1 = .ok (.ifCond .lt 15, 3) := by decide +kernel
theorem dX3_hasContact_4 : decode cX3_hasContact 4 = .ok (.iload_n 1, 1) := by decide +kernel
theorem dX3_hasContact_5 : decode cX3_hasContact 5 = .ok (.aload_n 0, 1) := by decide +kernel
theorem dX3_hasContact_6 : decode cX3_hasContact 6 = .ok (.getfield 24, 3) := by decide +kernel
theorem dX3_hasContact_9 : decode cX3_hasContact 9 = .ok (.if_icmp .ge 7, 3) := by decide +kernel
theorem dX3_hasContact_12 : decode cX3_hasContact 12 = .ok (.iconst 1, 1) := by decide +kernel
theorem dX3_hasContact_13 : decode cX3_hasContact 13 = .ok (.goto 4, 3) := by decide +kernel
theorem dX3_hasContact_16 : decode cX3_hasContact 16 = .ok (.iconst 0, 1) := by decide +kernel
theorem dX3_hasContact_17 : decode cX3_hasContact 17 = .ok (.ireturn, 1) := by decide +kernel
theorem dX3_hasRoom_0 : decode cX3_hasRoom 0 = .ok (.aload_n 0, 1) := by decide +kernel
theorem dX3_hasRoom_1 : decode cX3_hasRoom 1 = .ok (.getfield 24, 3) := by decide +kernel
theorem dX3_hasRoom_4 : decode cX3_hasRoom 4 = .ok (.aload_n 0, 1) := by decide +kernel
theorem dX3_hasRoom_5 : decode cX3_hasRoom 5 = .ok (.getfield 20, 3) := by decide +kernel
theorem dX3_hasRoom_8 : decode cX3_hasRoom 8 = .ok (.arraylength, 1) := by decide +kernel
theorem dX3_hasRoom_9 : decode cX3_hasRoom 9 = .ok (.if_icmp .ge 7, 3) := by decide +kernel
theorem dX3_hasRoom_12 : decode cX3_hasRoom 12 = .ok (.iconst 1, 1) := by decide +kernel
theorem dX3_hasRoom_13 : decode cX3_hasRoom 13 = .ok (.goto 4, 3) := by decide +kernel
theorem dX3_hasRoom_16 : decode cX3_hasRoom 16 = .ok (.iconst 0, 1) := by decide +kernel
theorem dX3_hasRoom_17 : decode cX3_hasRoom 17 = .ok (.ireturn, 1) := by decide +kernel
theorem dX3_addContact_0 : decode cX3_addContact 0 = .ok (.aload_n 0, 1) := by decide +kernel
theorem dX3_addContact_1 : decode cX3_addContact 1 = .ok (.getfield 24, 3) := by decide +kernel
theorem dX3_addContact_4 : decode cX3_addContact 4 = .ok (.ifCond .lt 35, 3) := by decide +kernel
theorem dX3_addContact_7 : decode cX3_addContact 7 = .ok (.aload_n 0, 1) := by decide +kernel
theorem dX3_addContact_8 : decode cX3_addContact 8 = .ok (.getfield 24, 3) := by decide +kernel
theorem dX3_addContact_11 : decode cX3_addContact 11 = .ok (.aload_n 0, 1) := by decide +kernel
theorem dX3_addContact_12 : decode cX3_addContact 12 = .ok (.getfield 20, 3) := by decide +kernel
theorem dX3_addContact_15 : decode cX3_addContact 15 = .ok (.arraylength, 1) := by decide +kernel
theorem dX3_addContact_16 : decode cX3_addContact 16 = .ok (.if_icmp .ge 23, 3) := by decide +kernel
theorem dX3_addContact_19 : decode cX3_addContact 19 = .ok (.aload_n 0, 1) := by decide +kernel
theorem dX3_addContact_20 : decode cX3_addContact 20 = .ok (.getfield 20, 3) := by decide +kernel
theorem dX3_addContact_23 : decode cX3_addContact 23 = .ok (.aload_n 0, 1) := by decide +kernel
theorem dX3_addContact_24 : decode cX3_addContact 24 = .ok (.getfield 24, 3) := by decide +kernel
theorem dX3_addContact_27 : decode cX3_addContact 27 = .ok (.aload_n 1, 1) := by decide +kernel
theorem dX3_addContact_28 : decode cX3_addContact 28 = .ok (.aastore, 1) := by decide +kernel
theorem dX3_addContact_29 : decode cX3_addContact 29 = .ok (.aload_n 0, 1) := by decide +kernel
theorem dX3_addContact_30 : decode cX3_addContact 30 = .ok (.dup, 1) := by decide +kernel
theorem dX3_addContact_31 : decode cX3_addContact 31 = .ok (.getfield 24, 3) := by decide +kernel
theorem dX3_addContact_34 : decode cX3_addContact 34 = .ok (.iconst 1, 1) := by decide +kernel
theorem dX3_addContact_35 : decode cX3_addContact 35 = .ok (.iadd, 1) := by decide +kernel
theorem dX3_addContact_36 : decode cX3_addContact 36 = .ok (.putfield 24, 3) := by decide +kernel
theorem dX3_addContact_39 : decode cX3_addContact 39 = .ok (.return_, 1) := by decide +kernel
theorem dX3_contactAt_0 : decode cX3_contactAt 0 = .ok (.iload_n 1, 1) := by decide +kernel
theorem dX3_contactAt_1 : decode cX3_contactAt 1 = .ok (.ifCond .lt 20, 3) := by decide +kernel
theorem dX3_contactAt_4 : decode cX3_contactAt 4 = .ok (.iload_n 1, 1) := by decide +kernel
theorem dX3_contactAt_5 : decode cX3_contactAt 5 = .ok (.aload_n 0, 1) := by decide +kernel
theorem dX3_contactAt_6 : decode cX3_contactAt 6 = .ok (.getfield 24, 3) := by decide +kernel
theorem dX3_contactAt_9 : decode cX3_contactAt 9 = .ok (.if_icmp .ge 12, 3) := by decide +kernel
theorem dX3_contactAt_12 : decode cX3_contactAt 12 = .ok (.iload_n 1, 1) := by decide +kernel
theorem dX3_contactAt_13 : decode cX3_contactAt 13 = .ok (.aload_n 0, 1) := by decide +kernel
theorem dX3_contactAt_14 : decode cX3_contactAt 14 = .ok (.getfield 20, 3) := by decide +kernel
theorem dX3_contactAt_17 : decode cX3_contactAt 17 = .ok (.arraylength, 1) := by decide +kernel
theorem dX3_contactAt_18 : decode cX3_contactAt 18 = .ok (.if_icmp .lt 8, 3) := by decide +kernel
theorem dX3_contactAt_21 : decode cX3_contactAt 21 = .ok (.aload_n 0, 1) := by decide +kernel
theorem dX3_contactAt_22 : decode cX3_contactAt 22 = .ok (.getfield 14, 3) := by decide +kernel
theorem dX3_contactAt_25 : decode cX3_contactAt 25 = .ok (.areturn, 1) := by decide +kernel
theorem dX3_contactAt_26 : decode cX3_contactAt 26 = .ok (.aload_n 0, 1) := by decide +kernel
theorem dX3_contactAt_27 : decode cX3_contactAt 27 = .ok (.getfield 20, 3) := by decide +kernel
theorem dX3_contactAt_30 : decode cX3_contactAt 30 = .ok (.iload_n 1, 1) := by decide +kernel
theorem dX3_contactAt_31 : decode cX3_contactAt 31 = .ok (.aaload, 1) := by decide +kernel
theorem dX3_contactAt_32 : decode cX3_contactAt 32 = .ok (.astore_n 2, 1) := by decide +kernel
theorem dX3_contactAt_33 : decode cX3_contactAt 33 = .ok (.aload_n 2, 1) := by decide +kernel
theorem dX3_contactAt_34 : decode cX3_contactAt 34 = .ok (.ifnonnull 10, 3) := by decide +kernel
theorem dX3_contactAt_37 : decode cX3_contactAt 37 = .ok (.aload_n 0, 1) := by decide +kernel
theorem dX3_contactAt_38 : decode cX3_contactAt 38 = .ok (.getfield 14, 3) := by decide +kernel
theorem dX3_contactAt_41 : decode cX3_contactAt 41 = .ok (.goto 4, 3) := by decide +kernel
theorem dX3_contactAt_44 : decode cX3_contactAt 44 = .ok (.aload_n 2, 1) := by decide +kernel
theorem dX3_contactAt_45 : decode cX3_contactAt 45 = .ok (.areturn, 1) := by decide +kernel
theorem dX3_copyFrom_0 : decode cX3_copyFrom 0 = .ok (.aload_n 0, 1) := by decide +kernel
theorem dX3_copyFrom_1 : decode cX3_copyFrom 1 = .ok (.aload_n 1, 1) := by decide +kernel
theorem dX3_copyFrom_2 : decode cX3_copyFrom 2 = .ok (.getfield 28, 3) := by decide +kernel
theorem dX3_copyFrom_5 : decode cX3_copyFrom 5 = .ok (.putfield 28, 3) := by decide +kernel
theorem dX3_copyFrom_8 : decode cX3_copyFrom 8 = .ok (.aload_n 0, 1) := by decide +kernel
theorem dX3_copyFrom_9 : decode cX3_copyFrom 9 = .ok (.iconst 0, 1) := by decide +kernel
theorem dX3_copyFrom_10 : decode cX3_copyFrom 10 = .ok (.putfield 24, 3) := by decide +kernel
theorem dX3_copyFrom_13 : decode cX3_copyFrom 13 = .ok (.iconst 0, 1) := by decide +kernel
theorem dX3_copyFrom_14 : decode cX3_copyFrom 14 = .ok (.istore_n 2, 1) := by decide +kernel
theorem dX3_copyFrom_15 : decode cX3_copyFrom 15 = .ok (.iload_n 2, 1) := by decide +kernel
theorem dX3_copyFrom_16 : decode cX3_copyFrom 16 = .ok (.aload_n 1, 1) := by decide +kernel
theorem dX3_copyFrom_17 : decode cX3_copyFrom 17 = .ok (.getfield 24, 3) := by decide +kernel
theorem dX3_copyFrom_20 : decode cX3_copyFrom 20 = .ok (.if_icmp .ge 18, 3) := by decide +kernel
theorem dX3_copyFrom_23 : decode cX3_copyFrom 23 = .ok (.aload_n 0, 1) := by decide +kernel
theorem dX3_copyFrom_24 : decode cX3_copyFrom 24 = .ok (.aload_n 1, 1) := by decide +kernel
theorem dX3_copyFrom_25 : decode cX3_copyFrom 25 = .ok (.iload_n 2, 1) := by decide +kernel
theorem dX3_copyFrom_26 : decode cX3_copyFrom 26 = .ok (.invokevirtual 31, 3) := by decide +kernel
theorem dX3_copyFrom_29 : decode cX3_copyFrom 29 = .ok (.invokevirtual 35, 3) := by decide +kernel
theorem dX3_copyFrom_32 : decode cX3_copyFrom 32 = .ok (.iinc 2 1, 3) := by decide +kernel
theorem dX3_copyFrom_35 : decode cX3_copyFrom 35 = .ok (.goto (-20), 3) := by decide +kernel
theorem dX3_copyFrom_38 : decode cX3_copyFrom 38 = .ok (.return_, 1) := by decide +kernel
theorem dX4_readPlan_0 : decode cX4_readPlan 0 = .ok (.aload_n 0, 1) := by decide +kernel
theorem dX4_readPlan_1 : decode cX4_readPlan 1 = .ok (.getfield 18, 3) := by decide +kernel
theorem dX4_readPlan_4 : decode cX4_readPlan 4 = .ok (.invokevirtual 29, 3) := by decide +kernel
theorem dX4_readPlan_7 : decode cX4_readPlan 7 = .ok (.aload_n 0, 1) := by decide +kernel
theorem dX4_readPlan_8 : decode cX4_readPlan 8 = .ok (.iconst 0, 1) := by decide +kernel
theorem dX4_readPlan_9 : decode cX4_readPlan 9 = .ok (.putfield 22, 3) := by decide +kernel
theorem dX4_readPlan_12 : decode cX4_readPlan 12 = .ok (.aload_n 0, 1) := by decide +kernel
theorem dX4_readPlan_13 : decode cX4_readPlan 13 = .ok (.iconst (-1), 1) := by decide +kernel
theorem dX4_readPlan_14 : decode cX4_readPlan 14 = .ok (.putfield 26, 3) := by decide +kernel
theorem dX4_readPlan_17 : decode cX4_readPlan 17 = .ok (.iconst 0, 1) := by decide +kernel
theorem dX4_readPlan_18 : decode cX4_readPlan 18 = .ok (.istore_n 1, 1) := by decide +kernel
theorem dX4_readPlan_19 : decode cX4_readPlan 19 = .ok (.aload_n 0, 1) := by decide +kernel
theorem dX4_readPlan_20 : decode cX4_readPlan 20 = .ok (.invokevirtual 32, 3) := by decide +kernel
theorem dX4_readPlan_23 : decode cX4_readPlan 23 = .ok (.iload_n 1, 1) := by decide +kernel
theorem dX4_readPlan_24 : decode cX4_readPlan 24 = .ok (.sipush 150, 3) := by decide +kernel
theorem dX4_readPlan_27 : decode cX4_readPlan 27 = .ok (.if_icmp .ge 48, 3) := by decide +kernel
theorem dX4_readPlan_30 : decode cX4_readPlan 30 = .ok (.aload_n 0, 1) := by decide +kernel
theorem dX4_readPlan_31 : decode cX4_readPlan 31 = .ok (.getfield 22, 3) := by decide +kernel
theorem dX4_readPlan_34 : decode cX4_readPlan 34 = .ok (.aload_n 0, 1) := by decide +kernel
theorem dX4_readPlan_35 : decode cX4_readPlan 35 = .ok (.getfield 9, 3) := by decide +kernel
theorem dX4_readPlan_38 : decode cX4_readPlan 38 = .ok (.getfield 35, 3) := by decide +kernel
theorem dX4_readPlan_41 : decode cX4_readPlan 41 = .ok (.if_icmp .ge 34, 3) := by decide +kernel
theorem dX4_readPlan_44 : decode cX4_readPlan 44 = .ok (.aload_n 0, 1) := by decide +kernel
theorem dX4_readPlan_45 : decode cX4_readPlan 45 = .ok (.getfield 26, 3) := by decide +kernel
theorem dX4_readPlan_48 : decode cX4_readPlan 48 = .ok (.iconst (-1), 1) := by decide +kernel
theorem dX4_readPlan_49 : decode cX4_readPlan 49 = .ok (.if_icmp .ne 26, 3) := by decide +kernel
theorem dX4_readPlan_52 : decode cX4_readPlan 52 = .ok (.aload_n 0, 1) := by decide +kernel
theorem dX4_readPlan_53 : decode cX4_readPlan 53 = .ok (.iload_n 1, 1) := by decide +kernel
theorem dX4_readPlan_54 : decode cX4_readPlan 54 = .ok (.ifCond .ne 7, 3) := by decide +kernel
theorem dX4_readPlan_57 : decode cX4_readPlan 57 = .ok (.iconst 1, 1) := by decide +kernel
theorem dX4_readPlan_58 : decode cX4_readPlan 58 = .ok (.goto 4, 3) := by decide +kernel
theorem dX4_readPlan_61 : decode cX4_readPlan 61 = .ok (.iconst 0, 1) := by decide +kernel
theorem dX4_readPlan_62 : decode cX4_readPlan 62 = .ok (.invokevirtual 40, 3) := by decide +kernel
theorem dX4_readPlan_65 : decode cX4_readPlan 65 = .ok (.iinc 1 1, 3) := by decide +kernel
theorem dX4_readPlan_68 : decode cX4_readPlan 68 = .ok (.aload_n 0, 1) := by decide +kernel
theorem dX4_readPlan_69 : decode cX4_readPlan 69 = .ok (.invokevirtual 32, 3) := by decide +kernel
theorem dX4_readPlan_72 : decode cX4_readPlan 72 = .ok (.goto (-49), 3) := by decide +kernel
theorem dX4_readPlan_75 : decode cX4_readPlan 75 = .ok (.aload_n 0, 1) := by decide +kernel
theorem dX4_readPlan_76 : decode cX4_readPlan 76 = .ok (.getfield 26, 3) := by decide +kernel
theorem dX4_readPlan_79 : decode cX4_readPlan 79 = .ok (.iconst (-1), 1) := by decide +kernel
theorem dX4_readPlan_80 : decode cX4_readPlan 80 = .ok (.if_icmp .ne 7, 3) := by decide +kernel
theorem dX4_readPlan_83 : decode cX4_readPlan 83 = .ok (.iload_n 1, 1) := by decide +kernel
theorem dX4_readPlan_84 : decode cX4_readPlan 84 = .ok (.goto 10, 3) := by decide +kernel
theorem dX4_readPlan_87 : decode cX4_readPlan 87 = .ok (.bipush (-10), 2) := by decide +kernel
theorem dX4_readPlan_89 : decode cX4_readPlan 89 = .ok (.aload_n 0, 1) := by decide +kernel
theorem dX4_readPlan_90 : decode cX4_readPlan 90 = .ok (.getfield 26, 3) := by decide +kernel
theorem dX4_readPlan_93 : decode cX4_readPlan 93 = .ok (.isub, 1) := by decide +kernel
theorem dX4_readPlan_94 : decode cX4_readPlan 94 = .ok (.ireturn, 1) := by decide +kernel
theorem dX4_readItem_0 : decode cX4_readItem 0 = .ok (.aload_n 0, 1) := by decide +kernel
theorem dX4_readItem_1 : decode cX4_readItem 1 = .ok (.getfield 9, 3) := by decide +kernel
theorem dX4_readItem_4 : decode cX4_readItem 4 = .ok (.aload_n 0, 1) := by decide +kernel
theorem dX4_readItem_5 : decode cX4_readItem 5 = .ok (.getfield 22, 3) := by decide +kernel
theorem dX4_readItem_8 : decode cX4_readItem 8 = .ok (.invokevirtual 44, 3) := by decide +kernel
theorem dX4_readItem_11 : decode cX4_readItem 11 = .ok (.istore_n 2, 1) := by decide +kernel
theorem dX4_readItem_12 : decode cX4_readItem 12 = .ok (.iload_n 2, 1) := by decide +kernel
theorem dX4_readItem_13 : decode cX4_readItem 13 = .ok (.bipush 110, 2) := by decide +kernel
theorem dX4_readItem_15 : decode cX4_readItem 15 = .ok (.if_icmp .ne 24, 3) := by decide +kernel
theorem dX4_readItem_18 : decode cX4_readItem 18 = .ok (.iload_n 1, 1) := by decide +kernel
theorem dX4_readItem_19 : decode cX4_readItem 19 = .ok (.ifCond .eq 20, 3) := by decide +kernel
theorem dX4_readItem_22 : decode cX4_readItem 22 = .ok (.aload_n 0, 1) := by decide +kernel
theorem dX4_readItem_23 : decode cX4_readItem 23 = .ok (.dup, 1) := by decide +kernel
theorem dX4_readItem_24 : decode cX4_readItem 24 = .ok (.getfield 22, 3) := by decide +kernel
theorem dX4_readItem_27 : decode cX4_readItem 27 = .ok (.iconst 1, 1) := by decide +kernel
theorem dX4_readItem_28 : decode cX4_readItem 28 = .ok (.iadd, 1) := by decide +kernel
theorem dX4_readItem_29 : decode cX4_readItem 29 = .ok (.putfield 22, 3) := by decide +kernel
theorem dX4_readItem_32 : decode cX4_readItem 32 = .ok (.aload_n 0, 1) := by decide +kernel
theorem dX4_readItem_33 : decode cX4_readItem 33 = .ok (.invokevirtual 48, 3) := by decide +kernel
theorem dX4_readItem_36 : decode cX4_readItem 36 = .ok (.goto 44, 3) := by decide +kernel
theorem dX4_readItem_39 : decode cX4_readItem 39 = .ok (.iload_n 2, 1) := by decide +kernel
theorem dX4_readItem_40 : decode cX4_readItem 40 = .ok (.bipush 99, 2) := by decide +kernel
theorem dX4_readItem_42 : decode cX4_readItem 42 = .ok (.if_icmp .ne 30, 3) := by decide +kernel
theorem dX4_readItem_45 : decode cX4_readItem 45 = .ok (.aload_n 0, 1) := by decide +kernel
theorem dX4_readItem_46 : decode cX4_readItem 46 = .ok (.getfield 18, 3) := by decide +kernel
theorem dX4_readItem_49 : decode cX4_readItem 49 = .ok (.invokevirtual 51, 3) := by decide +kernel
theorem dX4_readItem_52 : decode cX4_readItem 52 = .ok (.ifCond .eq 20, 3) := by decide +kernel
theorem dX4_readItem_55 : decode cX4_readItem 55 = .ok (.aload_n 0, 1) := by decide +kernel
theorem dX4_readItem_56 : decode cX4_readItem 56 = .ok (.dup, 1) := by decide +kernel
theorem dX4_readItem_57 : decode cX4_readItem 57 = .ok (.getfield 22, 3) := by decide +kernel
theorem dX4_readItem_60 : decode cX4_readItem 60 = .ok (.iconst 1, 1) := by decide +kernel
theorem dX4_readItem_61 : decode cX4_readItem 61 = .ok (.iadd, 1) := by decide +kernel
theorem dX4_readItem_62 : decode cX4_readItem 62 = .ok (.putfield 22, 3) := by decide +kernel
theorem dX4_readItem_65 : decode cX4_readItem 65 = .ok (.aload_n 0, 1) := by decide +kernel
theorem dX4_readItem_66 : decode cX4_readItem 66 = .ok (.invokevirtual 55, 3) := by decide +kernel
theorem dX4_readItem_69 : decode cX4_readItem 69 = .ok (.goto 11, 3) := by decide +kernel
theorem dX4_readItem_72 : decode cX4_readItem 72 = .ok (.aload_n 0, 1) := by decide +kernel
theorem dX4_readItem_73 : decode cX4_readItem 73 = .ok (.aload_n 0, 1) := by decide +kernel
theorem dX4_readItem_74 : decode cX4_readItem 74 = .ok (.getfield 22, 3) := by decide +kernel
theorem dX4_readItem_77 : decode cX4_readItem 77 = .ok (.invokevirtual 58, 3) := by decide +kernel
theorem dX4_readItem_80 : decode cX4_readItem 80 = .ok (.return_, 1) := by decide +kernel
theorem dX4_readNodes_0 : decode cX4_readNodes 0 = .ok (.aload_n 0, 1) := by decide +kernel
theorem dX4_readNodes_1 : decode cX4_readNodes 1 = .ok (.iconst 2, 1) := by decide +kernel
theorem dX4_readNodes_2 : decode cX4_readNodes 2 = .ok (.bipush 6, 2) := by decide +kernel
theorem dX4_readNodes_4 : decode cX4_readNodes 4 = .ok (.iconst (-1), 1) := by decide +kernel
theorem dX4_readNodes_5 : decode cX4_readNodes 5 = .ok (.invokevirtual 62, 3) := by decide +kernel
theorem dX4_readNodes_8 : decode cX4_readNodes 8 = .ok (.istore_n 1, 1) := by decide +kernel
theorem dX4_readNodes_9 : decode cX4_readNodes 9 = .ok (.aload_n 0, 1) := by decide +kernel
theorem dX4_readNodes_10 : decode cX4_readNodes 10 = .ok (.invokevirtual 66, 3) := by decide +kernel
theorem dX4_readNodes_13 : decode cX4_readNodes 13 = .ok (.aload_n 0, 1) := by decide +kernel
theorem dX4_readNodes_14 : decode cX4_readNodes 14 = .ok (.getfield 26, 3) := by decide +kernel
theorem dX4_readNodes_17 : decode cX4_readNodes 17 = .ok (.iconst (-1), 1) := by decide +kernel
theorem dX4_readNodes_18 : decode cX4_readNodes 18 = .ok (.if_icmp .ne 11, 3) := by decide +kernel
theorem dX4_readNodes_21 : decode cX4_readNodes 21 = .ok (.aload_n 0, 1) := by decide +kernel
theorem dX4_readNodes_22 : decode cX4_readNodes 22 = .ok (.getfield 18, 3) := by decide +kernel
theorem dX4_readNodes_25 : decode cX4_readNodes 25 = .ok (.iload_n 1, 1) := by decide +kernel
theorem dX4_readNodes_26 : decode cX4_readNodes 26 = .ok (.putfield 69, 3) := by decide +kernel
theorem dX4_readNodes_29 : decode cX4_readNodes 29 = .ok (.return_, 1) := by decide +kernel
theorem dX4_readContact_0 : decode cX4_readContact 0 = .ok (.aload_n 0, 1) := by decide +kernel
theorem dX4_readContact_1 : decode cX4_readContact 1 = .ok (.iconst 0, 1) := by decide +kernel
theorem dX4_readContact_2 : decode cX4_readContact 2 = .ok (.aload_n 0, 1) := by decide +kernel
theorem dX4_readContact_3 : decode cX4_readContact 3 = .ok (.getfield 18, 3) := by decide +kernel
theorem dX4_readContact_6 : decode cX4_readContact 6 = .ok (.getfield 69, 3) := by decide +kernel
theorem dX4_readContact_9 : decode cX4_readContact 9 = .ok (.iconst 1, 1) := by decide +kernel
theorem dX4_readContact_10 : decode cX4_readContact 10 = .ok (.isub, 1) := by decide +kernel
theorem dX4_readContact_11 : decode cX4_readContact 11 = .ok (.iconst (-1), 1) := by decide +kernel
theorem dX4_readContact_12 : decode cX4_readContact 12 = .ok (.invokevirtual 62, 3) := by decide +kernel
theorem dX4_readContact_15 : decode cX4_readContact 15 = .ok (.istore_n 1, 1) := by decide +kernel
theorem dX4_readContact_16 : decode cX4_readContact 16 = .ok (.aload_n 0, 1) := by decide +kernel
theorem dX4_readContact_17 : decode cX4_readContact 17 = .ok (.iconst 0, 1) := by decide +kernel
theorem dX4_readContact_18 : decode cX4_readContact 18 = .ok (.aload_n 0, 1) := by decide +kernel
theorem dX4_readContact_19 : decode cX4_readContact 19 = .ok (.getfield 18, 3) := by decide +kernel
theorem dX4_readContact_22 : decode cX4_readContact 22 = .ok (.getfield 69, 3) := by decide +kernel
theorem dX4_readContact_25 : decode cX4_readContact 25 = .ok (.iconst 1, 1) := by decide +kernel
theorem dX4_readContact_26 : decode cX4_readContact 26 = .ok (.isub, 1) := by decide +kernel
theorem dX4_readContact_27 : decode cX4_readContact 27 = .ok (.iload_n 1, 1) := by decide +kernel
theorem dX4_readContact_28 : decode cX4_readContact 28 = .ok (.invokevirtual 62, 3) := by decide +kernel
theorem dX4_readContact_31 : decode cX4_readContact 31 = .ok (.istore_n 2, 1) := by decide +kernel
theorem dX4_readContact_32 : decode cX4_readContact 32 = .ok (.aload_n 0, 1) := by decide +kernel
theorem dX4_readContact_33 : decode cX4_readContact 33 = .ok (.iconst 0, 1) := by decide +kernel
theorem dX4_readContact_34 : decode cX4_readContact 34 = .ok (.bipush 98, 2) := by decide +kernel
theorem dX4_readContact_36 : decode cX4_readContact 36 = .ok (.iconst (-1), 1) := by decide +kernel
theorem dX4_readContact_37 : decode cX4_readContact 37 = .ok (.invokevirtual 62, 3) := by decide +kernel
theorem dX4_readContact_40 : decode cX4_readContact 40 = .ok (.istore_n 3, 1) := by decide +kernel
theorem dX4_readContact_41 : decode cX4_readContact 41 = .ok (.aload_n 0, 1) := by decide +kernel
theorem dX4_readContact_42 : decode cX4_readContact 42 = .ok (.iload_n 3, 1) := by decide +kernel
theorem dX4_readContact_43 : decode cX4_readContact 43 = .ok (.iconst 1, 1) := by decide +kernel
theorem dX4_readContact_44 : decode cX4_readContact 44 = .ok (.iadd, 1) := by decide +kernel
theorem dX4_readContact_45 : decode cX4_readContact 45 = .ok (.bipush 99, 2) := by decide +kernel
theorem dX4_readContact_47 : decode cX4_readContact 47 = .ok (.iconst (-1), 1) := by decide +kernel
theorem dX4_readContact_48 : decode cX4_readContact 48 = .ok (.invokevirtual 62, 3) := by decide +kernel
theorem dX4_readContact_51 : decode cX4_readContact 51 = .ok (.istore 4, 2) := by decide +kernel
theorem dX4_readContact_53 : decode cX4_readContact 53 = .ok (.aload_n 0, 1) := by decide +kernel
theorem dX4_readContact_54 : decode cX4_readContact 54 = .ok (.iconst 1, 1) := by decide +kernel
theorem dX4_readContact_55 : decode cX4_readContact 55 = .ok (.bipush 9, 2) := by decide +kernel
theorem dX4_readContact_57 : decode cX4_readContact 57 = .ok (.iconst (-1), 1) := by decide +kernel
theorem dX4_readContact_58 : decode cX4_readContact 58 = .ok (.invokevirtual 62, 3) := by decide +kernel
theorem dX4_readContact_61 : decode cX4_readContact 61 = .ok (.istore 5, 2) := by decide +kernel
theorem dX4_readContact_63 : decode cX4_readContact 63 = .ok (.aload_n 0, 1) := by decide +kernel
theorem dX4_readContact_64 : decode cX4_readContact 64 = .ok (.iconst 0, 1) := by decide +kernel
theorem dX4_readContact_65 : decode cX4_readContact 65 = .ok (.bipush 9, 2) := by decide +kernel
theorem dX4_readContact_67 : decode cX4_readContact 67 = .ok (.iconst (-1), 1) := by decide +kernel
theorem dX4_readContact_68 : decode cX4_readContact 68 = .ok (.invokevirtual 62, 3) := by decide +kernel
theorem dX4_readContact_71 : decode cX4_readContact 71 = .ok (.istore 6, 2) := by decide +kernel
theorem dX4_readContact_73 : decode cX4_readContact 73 = .ok (.aload_n 0, 1) := by decide +kernel
theorem dX4_readContact_74 : decode cX4_readContact 74 = .ok (.invokevirtual 66, 3) := by decide +kernel
theorem dX4_readContact_77 : decode cX4_readContact 77 = .ok (.aload_n 0, 1) := by decide +kernel
theorem dX4_readContact_78 : decode cX4_readContact 78 = .ok (.getfield 26, 3) := by decide +kernel
theorem dX4_readContact_81 : decode cX4_readContact 81 = .ok (.iconst (-1), 1) := by decide +kernel
theorem dX4_readContact_82 : decode cX4_readContact 82 = .ok (.if_icmp .ne 26, 3) := by decide +kernel
theorem dX4_readContact_85 : decode cX4_readContact 85 = .ok (.aload_n 0, 1) := by decide +kernel
theorem dX4_readContact_86 : decode cX4_readContact 86 = .ok (.getfield 18, 3) := by decide +kernel
theorem dX4_readContact_89 : decode cX4_readContact 89 = .ok (.new 72, 3) := by decide +kernel
theorem dX4_readContact_92 : decode cX4_readContact 92 = .ok (.dup, 1) := by decide +kernel
theorem dX4_readContact_93 : decode cX4_readContact 93 = .ok (.iload_n 1, 1) := by decide +kernel
theorem dX4_readContact_94 : decode cX4_readContact 94 = .ok (.iload_n 2, 1) := by decide +kernel
theorem dX4_readContact_95 : decode cX4_readContact 95 = .ok (.iload_n 3, 1) := by decide +kernel
theorem dX4_readContact_96 : decode cX4_readContact 96 = .ok (.iload 4, 2) := by decide +kernel
theorem dX4_readContact_98 : decode cX4_readContact 98 = .ok (.iload 5, 2) := by decide +kernel
theorem dX4_readContact_100 : decode cX4_readContact 100 = .ok (.iload 6, 2) := by decide +kernel
theorem dX4_readContact_102 : decode cX4_readContact 102 = .ok (.invokespecial 74, 3) := by decide +kernel
theorem dX4_readContact_105 : decode cX4_readContact 105 = .ok (.invokevirtual 77, 3) := by decide +kernel
theorem dX4_readContact_108 : decode cX4_readContact 108 = .ok (.return_, 1) := by decide +kernel
theorem dX4_readNumber_0 : decode cX4_readNumber 0 = .ok (.aload_n 0, 1) := by decide +kernel
theorem dX4_readNumber_1 : decode cX4_readNumber 1 = .ok (.invokevirtual 32, 3) := by decide +kernel
theorem dX4_readNumber_4 : decode cX4_readNumber 4 = .ok (.aload_n 0, 1) := by decide +kernel
theorem dX4_readNumber_5 : decode cX4_readNumber 5 = .ok (.getfield 22, 3) := by decide +kernel
theorem dX4_readNumber_8 : decode cX4_readNumber 8 = .ok (.istore 4, 2) := by decide +kernel
theorem dX4_readNumber_10 : decode cX4_readNumber 10 = .ok (.iconst 0, 1) := by decide +kernel
theorem dX4_readNumber_11 : decode cX4_readNumber 11 = .ok (.istore 5, 2) := by decide +kernel
theorem dX4_readNumber_13 : decode cX4_readNumber 13 = .ok (.aload_n 0, 1) := by decide +kernel
theorem dX4_readNumber_14 : decode cX4_readNumber 14 = .ok (.getfield 22, 3) := by decide +kernel
theorem dX4_readNumber_17 : decode cX4_readNumber 17 = .ok (.aload_n 0, 1) := by decide +kernel
theorem dX4_readNumber_18 : decode cX4_readNumber 18 = .ok (.getfield 9, 3) := by decide +kernel
theorem dX4_readNumber_21 : decode cX4_readNumber 21 = .ok (.getfield 35, 3) := by decide +kernel
theorem dX4_readNumber_24 : decode cX4_readNumber 24 = .ok (.if_icmp .ge 60, 3) := by decide +kernel
theorem dX4_readNumber_27 : decode cX4_readNumber 27 = .ok (.aload_n 0, 1) := by decide +kernel
theorem dX4_readNumber_28 : decode cX4_readNumber 28 = .ok (.getfield 9, 3) := by decide +kernel
theorem dX4_readNumber_31 : decode cX4_readNumber 31 = .ok (.aload_n 0, 1) := by decide +kernel
theorem dX4_readNumber_32 : decode cX4_readNumber 32 = .ok (.getfield 22, 3) := by decide +kernel
theorem dX4_readNumber_35 : decode cX4_readNumber 35 = .ok (.invokevirtual 44, 3) := by decide +kernel
theorem dX4_readNumber_38 : decode cX4_readNumber 38 = .ok (.invokestatic 81, 3) := by decide +kernel
theorem dX4_readNumber_41 : decode cX4_readNumber 41 = .ok (.ifCond .eq 43, 3) := by decide +kernel
theorem dX4_readNumber_44 : decode cX4_readNumber 44 = .ok (.iload 5, 2) := by decide +kernel
theorem dX4_readNumber_46 : decode cX4_readNumber 46 = .ok (.bipush 10, 2) := by decide +kernel
theorem dX4_readNumber_48 : decode cX4_readNumber 48 = .ok (.imul, 1) := by decide +kernel
theorem dX4_readNumber_49 : decode cX4_readNumber 49 = .ok (.aload_n 0, 1) := by decide +kernel
theorem dX4_readNumber_50 : decode cX4_readNumber 50 = .ok (.getfield 9, 3) := by decide +kernel
theorem dX4_readNumber_53 : decode cX4_readNumber 53 = .ok (.aload_n 0, 1) := by decide +kernel
theorem dX4_readNumber_54 : decode cX4_readNumber 54 = .ok (.getfield 22, 3) := by decide +kernel
theorem dX4_readNumber_57 : decode cX4_readNumber 57 = .ok (.invokevirtual 44, 3) := by decide +kernel
theorem dX4_readNumber_60 : decode cX4_readNumber 60 = .ok (.iadd, 1) := by decide +kernel
theorem dX4_readNumber_61 : decode cX4_readNumber 61 = .ok (.bipush 48, 2) := by decide +kernel
theorem dX4_readNumber_63 : decode cX4_readNumber 63 = .ok (.isub, 1) := by decide +kernel
theorem dX4_readNumber_64 : decode cX4_readNumber 64 = .ok (.bipush 100, 2) := by decide +kernel
theorem dX4_readNumber_66 : decode cX4_readNumber 66 = .ok (.invokestatic 85, 3) := by decide +kernel
theorem dX4_readNumber_69 : decode cX4_readNumber 69 = .ok (.istore 5, 2) := by decide +kernel
theorem dX4_readNumber_71 : decode cX4_readNumber 71 = .ok (.aload_n 0, 1) := by decide +kernel
theorem dX4_readNumber_72 : decode cX4_readNumber 72 = .ok (.dup, 1) := by decide +kernel
theorem dX4_readNumber_73 : decode cX4_readNumber 73 = .ok (.getfield 22, 3) := by decide +kernel
theorem dX4_readNumber_76 : decode cX4_readNumber 76 = .ok (.iconst 1, 1) := by decide +kernel
theorem dX4_readNumber_77 : decode cX4_readNumber 77 = .ok (.iadd, 1) := by decide +kernel
theorem dX4_readNumber_78 : decode cX4_readNumber 78 = .ok (.putfield 22, 3) := by decide +kernel
theorem dX4_readNumber_81 : decode cX4_readNumber 81 = .ok (.goto (-68), 3) := by decide +kernel
theorem dX4_readNumber_84 : decode cX4_readNumber 84 = .ok (.aload_n 0, 1) := by decide +kernel
theorem dX4_readNumber_85 : decode cX4_readNumber 85 = .ok (.getfield 22, 3) := by decide +kernel
theorem dX4_readNumber_88 : decode cX4_readNumber 88 = .ok (.iload 4, 2) := by decide +kernel
theorem dX4_readNumber_90 : decode cX4_readNumber 90 = .ok (.isub, 1) := by decide +kernel
theorem dX4_readNumber_91 : decode cX4_readNumber 91 = .ok (.iconst 1, 1) := by decide +kernel
theorem dX4_readNumber_92 : decode cX4_readNumber 92 = .ok (.if_icmp .le 21, 3) := by decide +kernel
theorem dX4_readNumber_95 : decode cX4_readNumber 95 = .ok (.aload_n 0, 1) := by decide +kernel
theorem dX4_readNumber_96 : decode cX4_readNumber 96 = .ok (.getfield 9, 3) := by decide +kernel
theorem dX4_readNumber_99 : decode cX4_readNumber 99 = .ok (.iload 4, 2) := by decide +kernel
theorem dX4_readNumber_101 : decode cX4_readNumber 101 = .ok (.invokevirtual 44, 3) := by decide +kernel
theorem dX4_readNumber_104 : decode cX4_readNumber 104 = .ok (.bipush 48, 2) := by decide +kernel
theorem dX4_readNumber_106 : decode cX4_readNumber 106 = .ok (.if_icmp .ne 7, 3) := by decide +kernel
theorem dX4_readNumber_109 : decode cX4_readNumber 109 = .ok (.iconst 1, 1) := by decide +kernel
theorem dX4_readNumber_110 : decode cX4_readNumber 110 = .ok (.goto 4, 3) := by decide +kernel
theorem dX4_readNumber_113 : decode cX4_readNumber 113 = .ok (.iconst 0, 1) := by decide +kernel
theorem dX4_readNumber_114 : decode cX4_readNumber 114 = .ok (.istore 6, 2) := by decide +kernel
theorem dX4_readNumber_116 : decode cX4_readNumber 116 = .ok (.aload_n 0, 1) := by decide +kernel
theorem dX4_readNumber_117 : decode cX4_readNumber 117 = .ok (.getfield 22, 3) := by decide +kernel
theorem dX4_readNumber_120 : decode cX4_readNumber 120 = .ok (.iload 4, 2) := by decide +kernel
theorem dX4_readNumber_122 : decode cX4_readNumber 122 = .ok (.if_icmp .eq 24, 3) := by decide +kernel
theorem dX4_readNumber_125 : decode cX4_readNumber 125 = .ok (.iload 6, 2) := by decide +kernel
theorem dX4_readNumber_127 : decode cX4_readNumber 127 = .ok (.ifCond .ne 19, 3) := by decide +kernel
theorem dX4_readNumber_130 : decode cX4_readNumber 130 = .ok (.iload 5, 2) := by decide +kernel
theorem dX4_readNumber_132 : decode cX4_readNumber 132 = .ok (.iload_n 1, 1) := by decide +kernel
theorem dX4_readNumber_133 : decode cX4_readNumber 133 = .ok (.iload_n 2, 1) := by decide +kernel
theorem dX4_readNumber_134 : decode cX4_readNumber 134 = .ok (.invokestatic 91, 3) := by decide +kernel
theorem dX4_readNumber_137 : decode cX4_readNumber 137 = .ok (.ifCond .eq 9, 3) := by decide +kernel
theorem dX4_readNumber_140 : decode cX4_readNumber 140 = .ok (.iload 5, 2) := by decide +kernel
theorem dX4_readNumber_142 : decode cX4_readNumber 142 = .ok (.iload_n 3, 1) := by decide +kernel
theorem dX4_readNumber_143 : decode cX4_readNumber 143 = .ok (.if_icmp .ne 9, 3) := by decide +kernel
theorem dX4_readNumber_146 : decode cX4_readNumber 146 = .ok (.aload_n 0, 1) := by decide +kernel
theorem dX4_readNumber_147 : decode cX4_readNumber 147 = .ok (.iload 4, 2) := by decide +kernel
theorem dX4_readNumber_149 : decode cX4_readNumber 149 = .ok (.invokevirtual 58, 3) := by decide +kernel
theorem dX4_readNumber_152 : decode cX4_readNumber 152 = .ok (.iload 5, 2) := by decide +kernel
theorem dX4_readNumber_154 : decode cX4_readNumber 154 = .ok (.ireturn, 1) := by decide +kernel
theorem dX4_readSemicolon_0 : decode cX4_readSemicolon 0 = .ok (.aload_n 0, 1) := by decide +kernel
theorem dX4_readSemicolon_1 : decode cX4_readSemicolon 1 = .ok (.invokevirtual 32, 3) := by decide +kernel
theorem dX4_readSemicolon_4 : decode cX4_readSemicolon 4 = .ok (.aload_n 0, 1) := by decide +kernel
theorem dX4_readSemicolon_5 : decode cX4_readSemicolon 5 = .ok (.getfield 9, 3) := by decide +kernel
theorem dX4_readSemicolon_8 : decode cX4_readSemicolon 8 = .ok (.aload_n 0, 1) := by decide +kernel
theorem dX4_readSemicolon_9 : decode cX4_readSemicolon 9 = .ok (.getfield 22, 3) := by decide +kernel
theorem dX4_readSemicolon_12 : decode cX4_readSemicolon 12 = .ok (.invokevirtual 44, 3) := by decide +kernel
theorem dX4_readSemicolon_15 : decode cX4_readSemicolon 15 = .ok (.bipush 59, 2) := by decide +kernel
theorem dX4_readSemicolon_17 : decode cX4_readSemicolon 17 = .ok (.if_icmp .ne 16, 3) := by decide +kernel
theorem dX4_readSemicolon_20 : decode cX4_readSemicolon 20 = .ok (.aload_n 0, 1) := by decide +kernel
theorem dX4_readSemicolon_21 : decode cX4_readSemicolon 21 = .ok (.dup, 1) := by decide +kernel
theorem dX4_readSemicolon_22 : decode cX4_readSemicolon 22 = .ok (.getfield 22, 3) := by decide +kernel
theorem dX4_readSemicolon_25 : decode cX4_readSemicolon 25 = .ok (.iconst 1, 1) := by decide +kernel
theorem dX4_readSemicolon_26 : decode cX4_readSemicolon 26 = .ok (.iadd, 1) := by decide +kernel
theorem dX4_readSemicolon_27 : decode cX4_readSemicolon 27 = .ok (.putfield 22, 3) := by decide +kernel
theorem dX4_readSemicolon_30 : decode cX4_readSemicolon 30 = .ok (.goto 11, 3) := by decide +kernel
theorem dX4_readSemicolon_33 : decode cX4_readSemicolon 33 = .ok (.aload_n 0, 1) := by decide +kernel
theorem dX4_readSemicolon_34 : decode cX4_readSemicolon 34 = .ok (.aload_n 0, 1) := by decide +kernel
theorem dX4_readSemicolon_35 : decode cX4_readSemicolon 35 = .ok (.getfield 22, 3) := by decide +kernel
theorem dX4_readSemicolon_38 : decode cX4_readSemicolon 38 = .ok (.invokevirtual 58, 3) := by decide +kernel
theorem dX4_readSemicolon_41 : decode cX4_readSemicolon 41 = .ok (.return_, 1) := by decide +kernel
theorem dX4_skipBlanks_0 : decode cX4_skipBlanks 0 = .ok (.aload_n 0, 1) := by decide +kernel
theorem dX4_skipBlanks_1 : decode cX4_skipBlanks 1 = .ok (.getfield 22, 3) := by decide +kernel
theorem dX4_skipBlanks_4 : decode cX4_skipBlanks 4 = .ok (.aload_n 0, 1) := by decide +kernel
theorem dX4_skipBlanks_5 : decode cX4_skipBlanks 5 = .ok (.getfield 9, 3) := by decide +kernel
theorem dX4_skipBlanks_8 : decode cX4_skipBlanks 8 = .ok (.getfield 35, 3) := by decide +kernel
theorem dX4_skipBlanks_11 : decode cX4_skipBlanks 11 = .ok (.if_icmp .ge 32, 3) := by decide +kernel
theorem dX4_skipBlanks_14 : decode cX4_skipBlanks 14 = .ok (.aload_n 0, 1) := by decide +kernel
theorem dX4_skipBlanks_15 : decode cX4_skipBlanks 15 = .ok (.getfield 9, 3) := by decide +kernel
theorem dX4_skipBlanks_18 : decode cX4_skipBlanks 18 = .ok (.aload_n 0, 1) := by decide +kernel
theorem dX4_skipBlanks_19 : decode cX4_skipBlanks 19 = .ok (.getfield 22, 3) := by decide +kernel
theorem dX4_skipBlanks_22 : decode cX4_skipBlanks 22 = .ok (.invokevirtual 44, 3) := by decide +kernel
theorem dX4_skipBlanks_25 : decode cX4_skipBlanks 25 = .ok (.bipush 32, 2) := by decide +kernel
theorem dX4_skipBlanks_27 : decode cX4_skipBlanks 27 = .ok (.if_icmp .ne 16, 3) := by decide +kernel
theorem dX4_skipBlanks_30 : decode cX4_skipBlanks 30 = .ok (.aload_n 0, 1) := by decide +kernel
theorem dX4_skipBlanks_31 : decode cX4_skipBlanks 31 = .ok (.dup, 1) := by decide +kernel
theorem dX4_skipBlanks_32 : decode cX4_skipBlanks 32 = .ok (.getfield 22, 3) := by decide +kernel
theorem dX4_skipBlanks_35 : decode cX4_skipBlanks 35 = .ok (.iconst 1, 1) := by decide +kernel
theorem dX4_skipBlanks_36 : decode cX4_skipBlanks 36 = .ok (.iadd, 1) := by decide +kernel
theorem dX4_skipBlanks_37 : decode cX4_skipBlanks 37 = .ok (.putfield 22, 3) := by decide +kernel
theorem dX4_skipBlanks_40 : decode cX4_skipBlanks 40 = .ok (.goto (-40), 3) := by decide +kernel
theorem dX4_skipBlanks_43 : decode cX4_skipBlanks 43 = .ok (.return_, 1) := by decide +kernel
theorem dX4_isDigit_0 : decode cX4_isDigit 0 = .ok (.iload_n 0, 1) := by decide +kernel
theorem dX4_isDigit_1 : decode cX4_isDigit 1 = .ok (.bipush 48, 2) := by decide +kernel
theorem dX4_isDigit_3 : decode cX4_isDigit 3 = .ok (.if_icmp .lt 13, 3) := by decide +kernel
theorem dX4_isDigit_6 : decode cX4_isDigit 6 = .ok (.iload_n 0, 1) := by decide +kernel
theorem dX4_isDigit_7 : decode cX4_isDigit 7 = .ok (.bipush 57, 2) := by decide +kernel
theorem dX4_isDigit_9 : decode cX4_isDigit 9 = .ok (.if_icmp .gt 7, 3) := by decide +kernel
theorem dX4_isDigit_12 : decode cX4_isDigit 12 = .ok (.iconst 1, 1) := by decide +kernel
theorem dX4_isDigit_13 : decode cX4_isDigit 13 = .ok (.goto 4, 3) := by decide +kernel
theorem dX4_isDigit_16 : decode cX4_isDigit 16 = .ok (.iconst 0, 1) := by decide +kernel
theorem dX4_isDigit_17 : decode cX4_isDigit 17 = .ok (.ireturn, 1) := by decide +kernel
theorem dX4_blame_0 : decode cX4_blame 0 = .ok (.aload_n 0, 1) := by decide +kernel
theorem dX4_blame_1 : decode cX4_blame 1 = .ok (.getfield 26, 3) := by decide +kernel
theorem dX4_blame_4 : decode cX4_blame 4 = .ok (.iconst (-1), 1) := by decide +kernel
theorem dX4_blame_5 : decode cX4_blame 5 = .ok (.if_icmp .ne 8, 3) := by decide +kernel
theorem dX4_blame_8 : decode cX4_blame 8 = .ok (.aload_n 0, 1) := by decide +kernel
theorem dX4_blame_9 : decode cX4_blame 9 = .ok (.iload_n 1, 1) := by decide +kernel
theorem dX4_blame_10 : decode cX4_blame 10 = .ok (.putfield 26, 3) := by decide +kernel
theorem dX4_blame_13 : decode cX4_blame 13 = .ok (.return_, 1) := by decide +kernel
theorem dX0_start_0 : decode cX0_start 0 = .ok (.aload_n 0, 1) := by decide +kernel
theorem dX0_start_1 : decode cX0_start 1 = .ok (.iload_n 1, 1) := by decide +kernel
theorem dX0_start_2 : decode cX0_start 2 = .ok (.putfield 24, 3) := by decide +kernel
theorem dX0_start_5 : decode cX0_start 5 = .ok (.aload_n 0, 1) := by decide +kernel
theorem dX0_start_6 : decode cX0_start 6 = .ok (.iload_n 2, 1) := by decide +kernel
theorem dX0_start_7 : decode cX0_start 7 = .ok (.putfield 28, 3) := by decide +kernel
theorem dX0_start_10 : decode cX0_start 10 = .ok (.aload_n 0, 1) := by decide +kernel
theorem dX0_start_11 : decode cX0_start 11 = .ok (.iload_n 3, 1) := by decide +kernel
theorem dX0_start_12 : decode cX0_start 12 = .ok (.putfield 31, 3) := by decide +kernel
theorem dX0_start_15 : decode cX0_start 15 = .ok (.aload_n 0, 1) := by decide +kernel
theorem dX0_start_16 : decode cX0_start 16 = .ok (.iload 4, 2) := by decide +kernel
theorem dX0_start_18 : decode cX0_start 18 = .ok (.putfield 34, 3) := by decide +kernel
theorem dX0_start_21 : decode cX0_start 21 = .ok (.aload_n 0, 1) := by decide +kernel
theorem dX0_start_22 : decode cX0_start 22 = .ok (.iload 5, 2) := by decide +kernel
theorem dX0_start_24 : decode cX0_start 24 = .ok (.putfield 37, 3) := by decide +kernel
theorem dX0_start_27 : decode cX0_start 27 = .ok (.aload_n 0, 1) := by decide +kernel
theorem dX0_start_28 : decode cX0_start 28 = .ok (.iconst 0, 1) := by decide +kernel
theorem dX0_start_29 : decode cX0_start 29 = .ok (.putfield 40, 3) := by decide +kernel
theorem dX0_start_32 : decode cX0_start 32 = .ok (.aload_n 0, 1) := by decide +kernel
theorem dX0_start_33 : decode cX0_start 33 = .ok (.iconst 0, 1) := by decide +kernel
theorem dX0_start_34 : decode cX0_start 34 = .ok (.putfield 44, 3) := by decide +kernel
theorem dX0_start_37 : decode cX0_start 37 = .ok (.aload_n 0, 1) := by decide +kernel
theorem dX0_start_38 : decode cX0_start 38 = .ok (.getfield 20, 3) := by decide +kernel
theorem dX0_start_41 : decode cX0_start 41 = .ok (.iconst 0, 1) := by decide +kernel
theorem dX0_start_42 : decode cX0_start 42 = .ok (.invokevirtual 47, 3) := by decide +kernel
theorem dX0_start_45 : decode cX0_start 45 = .ok (.return_, 1) := by decide +kernel
theorem dX0_copyFrom_0 : decode cX0_copyFrom 0 = .ok (.aload_n 0, 1) := by decide +kernel
theorem dX0_copyFrom_1 : decode cX0_copyFrom 1 = .ok (.aload_n 1, 1) := by decide +kernel
theorem dX0_copyFrom_2 : decode cX0_copyFrom 2 = .ok (.getfield 24, 3) := by decide +kernel
theorem dX0_copyFrom_5 : decode cX0_copyFrom 5 = .ok (.aload_n 1, 1) := by decide +kernel
theorem dX0_copyFrom_6 : decode cX0_copyFrom 6 = .ok (.getfield 28, 3) := by decide +kernel
theorem dX0_copyFrom_9 : decode cX0_copyFrom 9 = .ok (.aload_n 1, 1) := by decide +kernel
theorem dX0_copyFrom_10 : decode cX0_copyFrom 10 = .ok (.getfield 31, 3) := by decide +kernel
theorem dX0_copyFrom_13 : decode cX0_copyFrom 13 = .ok (.aload_n 1, 1) := by decide +kernel
theorem dX0_copyFrom_14 : decode cX0_copyFrom 14 = .ok (.getfield 34, 3) := by decide +kernel
theorem dX0_copyFrom_17 : decode cX0_copyFrom 17 = .ok (.aload_n 1, 1) := by decide +kernel
theorem dX0_copyFrom_18 : decode cX0_copyFrom 18 = .ok (.getfield 37, 3) := by decide +kernel
theorem dX0_copyFrom_21 : decode cX0_copyFrom 21 = .ok (.invokevirtual 51, 3) := by decide +kernel
theorem dX0_copyFrom_24 : decode cX0_copyFrom 24 = .ok (.aload_n 0, 1) := by decide +kernel
theorem dX0_copyFrom_25 : decode cX0_copyFrom 25 = .ok (.aload_n 1, 1) := by decide +kernel
theorem dX0_copyFrom_26 : decode cX0_copyFrom 26 = .ok (.getfield 40, 3) := by decide +kernel
theorem dX0_copyFrom_29 : decode cX0_copyFrom 29 = .ok (.putfield 40, 3) := by decide +kernel
theorem dX0_copyFrom_32 : decode cX0_copyFrom 32 = .ok (.aload_n 0, 1) := by decide +kernel
theorem dX0_copyFrom_33 : decode cX0_copyFrom 33 = .ok (.aload_n 1, 1) := by decide +kernel
theorem dX0_copyFrom_34 : decode cX0_copyFrom 34 = .ok (.getfield 44, 3) := by decide +kernel
theorem dX0_copyFrom_37 : decode cX0_copyFrom 37 = .ok (.putfield 44, 3) := by decide +kernel
theorem dX0_copyFrom_40 : decode cX0_copyFrom 40 = .ok (.aload_n 0, 1) := by decide +kernel
theorem dX0_copyFrom_41 : decode cX0_copyFrom 41 = .ok (.getfield 20, 3) := by decide +kernel
theorem dX0_copyFrom_44 : decode cX0_copyFrom 44 = .ok (.aload_n 1, 1) := by decide +kernel
theorem dX0_copyFrom_45 : decode cX0_copyFrom 45 = .ok (.getfield 20, 3) := by decide +kernel
theorem dX0_copyFrom_48 : decode cX0_copyFrom 48 = .ok (.invokevirtual 55, 3) := by decide +kernel
theorem dX0_copyFrom_51 : decode cX0_copyFrom 51 = .ok (.return_, 1) := by decide +kernel
theorem dX0_standing_0 : decode cX0_standing 0 = .ok (.aload_n 0, 1) := by decide +kernel
theorem dX0_standing_1 : decode cX0_standing 1 = .ok (.getfield 24, 3) := by decide +kernel
theorem dX0_standing_4 : decode cX0_standing 4 = .ok (.aload_n 0, 1) := by decide +kernel
theorem dX0_standing_5 : decode cX0_standing 5 = .ok (.getfield 28, 3) := by decide +kernel
theorem dX0_standing_8 : decode cX0_standing 8 = .ok (.if_icmp .ne 5, 3) := by decide +kernel
theorem dX0_standing_11 : decode cX0_standing 11 = .ok (.iconst 2, 1) := by decide +kernel
theorem dX0_standing_12 : decode cX0_standing 12 = .ok (.ireturn, 1) := by decide +kernel
theorem dX0_standing_13 : decode cX0_standing 13 = .ok (.aload_n 0, 1) := by decide +kernel
theorem dX0_standing_14 : decode cX0_standing 14 = .ok (.getfield 40, 3) := by decide +kernel
theorem dX0_standing_17 : decode cX0_standing 17 = .ok (.ifCond .eq 5, 3) := by decide +kernel
theorem dX0_standing_20 : decode cX0_standing 20 = .ok (.iconst 4, 1) := by decide +kernel
theorem dX0_standing_21 : decode cX0_standing 21 = .ok (.ireturn, 1) := by decide +kernel
theorem dX0_standing_22 : decode cX0_standing 22 = .ok (.iload_n 1, 1) := by decide +kernel
theorem dX0_standing_23 : decode cX0_standing 23 = .ok (.aload_n 0, 1) := by decide +kernel
theorem dX0_standing_24 : decode cX0_standing 24 = .ok (.getfield 34, 3) := by decide +kernel
theorem dX0_standing_27 : decode cX0_standing 27 = .ok (.if_icmp .le 5, 3) := by decide +kernel
theorem dX0_standing_30 : decode cX0_standing 30 = .ok (.iconst 3, 1) := by decide +kernel
theorem dX0_standing_31 : decode cX0_standing 31 = .ok (.ireturn, 1) := by decide +kernel
theorem dX0_standing_32 : decode cX0_standing 32 = .ok (.aload_n 0, 1) := by decide +kernel
theorem dX0_standing_33 : decode cX0_standing 33 = .ok (.invokevirtual 59, 3) := by decide +kernel
theorem dX0_standing_36 : decode cX0_standing 36 = .ok (.aload_n 0, 1) := by decide +kernel
theorem dX0_standing_37 : decode cX0_standing 37 = .ok (.getfield 28, 3) := by decide +kernel
theorem dX0_standing_40 : decode cX0_standing 40 = .ok (.if_icmp .ne 7, 3) := by decide +kernel
theorem dX0_standing_43 : decode cX0_standing 43 = .ok (.iconst 1, 1) := by decide +kernel
theorem dX0_standing_44 : decode cX0_standing 44 = .ok (.goto 4, 3) := by decide +kernel
theorem dX0_standing_47 : decode cX0_standing 47 = .ok (.iconst 0, 1) := by decide +kernel
theorem dX0_standing_48 : decode cX0_standing 48 = .ok (.ireturn, 1) := by decide +kernel
theorem dX0_lastNode_0 : decode cX0_lastNode 0 = .ok (.aload_n 0, 1) := by decide +kernel
theorem dX0_lastNode_1 : decode cX0_lastNode 1 = .ok (.getfield 20, 3) := by decide +kernel
theorem dX0_lastNode_4 : decode cX0_lastNode 4 = .ok (.getfield 63, 3) := by decide +kernel
theorem dX0_lastNode_7 : decode cX0_lastNode 7 = .ok (.ifCond .ne 8, 3) := by decide +kernel
theorem dX0_lastNode_10 : decode cX0_lastNode 10 = .ok (.aload_n 0, 1) := by decide +kernel
theorem dX0_lastNode_11 : decode cX0_lastNode 11 = .ok (.getfield 24, 3) := by decide +kernel
theorem dX0_lastNode_14 : decode cX0_lastNode 14 = .ok (.ireturn, 1) := by decide +kernel
theorem dX0_lastNode_15 : decode cX0_lastNode 15 = .ok (.aload_n 0, 1) := by decide +kernel
theorem dX0_lastNode_16 : decode cX0_lastNode 16 = .ok (.getfield 9, 3) := by decide +kernel
theorem dX0_lastNode_19 : decode cX0_lastNode 19 = .ok (.aload_n 0, 1) := by decide +kernel
theorem dX0_lastNode_20 : decode cX0_lastNode 20 = .ok (.getfield 20, 3) := by decide +kernel
theorem dX0_lastNode_23 : decode cX0_lastNode 23 = .ok (.aload_n 0, 1) := by decide +kernel
theorem dX0_lastNode_24 : decode cX0_lastNode 24 = .ok (.getfield 20, 3) := by decide +kernel
theorem dX0_lastNode_27 : decode cX0_lastNode 27 = .ok (.getfield 63, 3) := by decide +kernel
theorem dX0_lastNode_30 : decode cX0_lastNode 30 = .ok (.iconst 1, 1) := by decide +kernel
theorem dX0_lastNode_31 : decode cX0_lastNode 31 = .ok (.isub, 1) := by decide +kernel
theorem dX0_lastNode_32 : decode cX0_lastNode 32 = .ok (.iconst 0, 1) := by decide +kernel
theorem dX0_lastNode_33 : decode cX0_lastNode 33 = .ok (.invokevirtual 66, 3) := by decide +kernel
theorem dX0_lastNode_36 : decode cX0_lastNode 36 = .ok (.invokevirtual 70, 3) := by decide +kernel
theorem dX0_lastNode_39 : decode cX0_lastNode 39 = .ok (.getfield 76, 3) := by decide +kernel
theorem dX0_lastNode_42 : decode cX0_lastNode 42 = .ok (.ireturn, 1) := by decide +kernel
theorem dX0_lastThere_0 : decode cX0_lastThere 0 = .ok (.aload_n 0, 1) := by decide +kernel
theorem dX0_lastThere_1 : decode cX0_lastThere 1 = .ok (.getfield 20, 3) := by decide +kernel
theorem dX0_lastThere_4 : decode cX0_lastThere 4 = .ok (.aload_n 0, 1) := by decide +kernel
theorem dX0_lastThere_5 : decode cX0_lastThere 5 = .ok (.getfield 20, 3) := by decide +kernel
theorem dX0_lastThere_8 : decode cX0_lastThere 8 = .ok (.getfield 63, 3) := by decide +kernel
theorem dX0_lastThere_11 : decode cX0_lastThere 11 = .ok (.iconst 1, 1) := by decide +kernel
theorem dX0_lastThere_12 : decode cX0_lastThere 12 = .ok (.isub, 1) := by decide +kernel
theorem dX0_lastThere_13 : decode cX0_lastThere 13 = .ok (.iconst 3, 1) := by decide +kernel
theorem dX0_lastThere_14 : decode cX0_lastThere 14 = .ok (.invokevirtual 66, 3) := by decide +kernel
theorem dX0_lastThere_17 : decode cX0_lastThere 17 = .ok (.ireturn, 1) := by decide +kernel
theorem dX0_property_0 : decode cX0_property 0 = .ok (.iload_n 1, 1) := by decide +kernel
theorem dX0_property_1 : decode cX0_property 1 = .ok (.tableswitch 113 0 8 #[51, 57, 62, 67, 75, 80, 85, 90, 95], 51) := by decide +kernel
theorem dX0_property_52 : decode cX0_property 52 = .ok (.aload_n 0, 1) := by decide +kernel
theorem dX0_property_53 : decode cX0_property 53 = .ok (.iload_n 2, 1) := by decide +kernel
theorem dX0_property_54 : decode cX0_property 54 = .ok (.invokevirtual 81, 3) := by decide +kernel
theorem dX0_property_57 : decode cX0_property 57 = .ok (.ireturn, 1) := by decide +kernel
theorem dX0_property_58 : decode cX0_property 58 = .ok (.aload_n 0, 1) := by decide +kernel
theorem dX0_property_59 : decode cX0_property 59 = .ok (.getfield 24, 3) := by decide +kernel
theorem dX0_property_62 : decode cX0_property 62 = .ok (.ireturn, 1) := by decide +kernel
theorem dX0_property_63 : decode cX0_property 63 = .ok (.aload_n 0, 1) := by decide +kernel
theorem dX0_property_64 : decode cX0_property 64 = .ok (.invokevirtual 85, 3) := by decide +kernel
theorem dX0_property_67 : decode cX0_property 67 = .ok (.ireturn, 1) := by decide +kernel
theorem dX0_property_68 : decode cX0_property 68 = .ok (.aload_n 0, 1) := by decide +kernel
theorem dX0_property_69 : decode cX0_property 69 = .ok (.getfield 20, 3) := by decide +kernel
theorem dX0_property_72 : decode cX0_property 72 = .ok (.getfield 63, 3) := by decide +kernel
theorem dX0_property_75 : decode cX0_property 75 = .ok (.ireturn, 1) := by decide +kernel
theorem dX0_property_76 : decode cX0_property 76 = .ok (.aload_n 0, 1) := by decide +kernel
theorem dX0_property_77 : decode cX0_property 77 = .ok (.getfield 37, 3) := by decide +kernel
theorem dX0_property_80 : decode cX0_property 80 = .ok (.ireturn, 1) := by decide +kernel
theorem dX0_property_81 : decode cX0_property 81 = .ok (.aload_n 0, 1) := by decide +kernel
theorem dX0_property_82 : decode cX0_property 82 = .ok (.getfield 31, 3) := by decide +kernel
theorem dX0_property_85 : decode cX0_property 85 = .ok (.ireturn, 1) := by decide +kernel
theorem dX0_property_86 : decode cX0_property 86 = .ok (.aload_n 0, 1) := by decide +kernel
theorem dX0_property_87 : decode cX0_property 87 = .ok (.getfield 34, 3) := by decide +kernel
theorem dX0_property_90 : decode cX0_property 90 = .ok (.ireturn, 1) := by decide +kernel
theorem dX0_property_91 : decode cX0_property 91 = .ok (.aload_n 0, 1) := by decide +kernel
theorem dX0_property_92 : decode cX0_property 92 = .ok (.getfield 28, 3) := by decide +kernel
theorem dX0_property_95 : decode cX0_property 95 = .ok (.ireturn, 1) := by decide +kernel
theorem dX0_property_96 : decode cX0_property 96 = .ok (.aload_n 0, 1) := by decide +kernel
theorem dX0_property_97 : decode cX0_property 97 = .ok (.iload_n 2, 1) := by decide +kernel
theorem dX0_property_98 : decode cX0_property 98 = .ok (.invokevirtual 81, 3) := by decide +kernel
theorem dX0_property_101 : decode cX0_property 101 = .ok (.ifCond .ne 10, 3) := by decide +kernel
theorem dX0_property_104 : decode cX0_property 104 = .ok (.aload_n 0, 1) := by decide +kernel
theorem dX0_property_105 : decode cX0_property 105 = .ok (.getfield 44, 3) := by decide +kernel
theorem dX0_property_108 : decode cX0_property 108 = .ok (.goto 5, 3) := by decide +kernel
theorem dX0_property_111 : decode cX0_property 111 = .ok (.bipush (-9), 2) := by decide +kernel
theorem dX0_property_113 : decode cX0_property 113 = .ok (.ireturn, 1) := by decide +kernel
theorem dX0_property_114 : decode cX0_property 114 = .ok (.iconst (-1), 1) := by decide +kernel
theorem dX0_property_115 : decode cX0_property 115 = .ok (.ireturn, 1) := by decide +kernel
theorem dX0_drop_0 : decode cX0_drop 0 = .ok (.aload_n 0, 1) := by decide +kernel
theorem dX0_drop_1 : decode cX0_drop 1 = .ok (.iconst 1, 1) := by decide +kernel
theorem dX0_drop_2 : decode cX0_drop 2 = .ok (.putfield 40, 3) := by decide +kernel
theorem dX0_drop_5 : decode cX0_drop 5 = .ok (.aload_n 0, 1) := by decide +kernel
theorem dX0_drop_6 : decode cX0_drop 6 = .ok (.iload_n 1, 1) := by decide +kernel
theorem dX0_drop_7 : decode cX0_drop 7 = .ok (.invokevirtual 88, 3) := by decide +kernel
theorem dX0_drop_10 : decode cX0_drop 10 = .ok (.return_, 1) := by decide +kernel
theorem dX0_giveUpHopsToCome_0 : decode cX0_giveUpHopsToCome 0 = .ok (.aload_n 0, 1) := by decide +kernel
theorem dX0_giveUpHopsToCome_1 : decode cX0_giveUpHopsToCome 1 = .ok (.getfield 20, 3) := by decide +kernel
theorem dX0_giveUpHopsToCome_4 : decode cX0_giveUpHopsToCome 4 = .ok (.aload_n 0, 1) := by decide +kernel
theorem dX0_giveUpHopsToCome_5 : decode cX0_giveUpHopsToCome 5 = .ok (.iload_n 1, 1) := by decide +kernel
theorem dX0_giveUpHopsToCome_6 : decode cX0_giveUpHopsToCome 6 = .ok (.invokevirtual 91, 3) := by decide +kernel
theorem dX0_giveUpHopsToCome_9 : decode cX0_giveUpHopsToCome 9 = .ok (.invokevirtual 47, 3) := by decide +kernel
theorem dX0_giveUpHopsToCome_12 : decode cX0_giveUpHopsToCome 12 = .ok (.return_, 1) := by decide +kernel
theorem dX0_hopsOnTheirWay_0 : decode cX0_hopsOnTheirWay 0 = .ok (.aload_n 0, 1) := by decide +kernel
theorem dX0_hopsOnTheirWay_1 : decode cX0_hopsOnTheirWay 1 = .ok (.getfield 20, 3) := by decide +kernel
theorem dX0_hopsOnTheirWay_4 : decode cX0_hopsOnTheirWay 4 = .ok (.getfield 63, 3) := by decide +kernel
theorem dX0_hopsOnTheirWay_7 : decode cX0_hopsOnTheirWay 7 = .ok (.ifCond .le 20, 3) := by decide +kernel
theorem dX0_hopsOnTheirWay_10 : decode cX0_hopsOnTheirWay 10 = .ok (.aload_n 0, 1) := by decide +kernel
theorem dX0_hopsOnTheirWay_11 : decode cX0_hopsOnTheirWay 11 = .ok (.getfield 20, 3) := by decide +kernel
theorem dX0_hopsOnTheirWay_14 : decode cX0_hopsOnTheirWay 14 = .ok (.iconst 0, 1) := by decide +kernel
theorem dX0_hopsOnTheirWay_15 : decode cX0_hopsOnTheirWay 15 = .ok (.iconst 1, 1) := by decide +kernel
theorem dX0_hopsOnTheirWay_16 : decode cX0_hopsOnTheirWay 16 = .ok (.invokevirtual 66, 3) := by decide +kernel
theorem dX0_hopsOnTheirWay_19 : decode cX0_hopsOnTheirWay 19 = .ok (.iload_n 1, 1) := by decide +kernel
theorem dX0_hopsOnTheirWay_20 : decode cX0_hopsOnTheirWay 20 = .ok (.if_icmp .ge 7, 3) := by decide +kernel
theorem dX0_hopsOnTheirWay_23 : decode cX0_hopsOnTheirWay 23 = .ok (.iconst 1, 1) := by decide +kernel
theorem dX0_hopsOnTheirWay_24 : decode cX0_hopsOnTheirWay 24 = .ok (.goto 4, 3) := by decide +kernel
theorem dX0_hopsOnTheirWay_27 : decode cX0_hopsOnTheirWay 27 = .ok (.iconst 0, 1) := by decide +kernel
theorem dX0_hopsOnTheirWay_28 : decode cX0_hopsOnTheirWay 28 = .ok (.ireturn, 1) := by decide +kernel
theorem dX0_arrive_0 : decode cX0_arrive 0 = .ok (.iconst 0, 1) := by decide +kernel
theorem dX0_arrive_1 : decode cX0_arrive 1 = .ok (.istore_n 2, 1) := by decide +kernel
theorem dX0_arrive_2 : decode cX0_arrive 2 = .ok (.iload_n 2, 1) := by decide +kernel
theorem dX0_arrive_3 : decode cX0_arrive 3 = .ok (.bipush 6, 2) := by decide +kernel
theorem dX0_arrive_5 : decode cX0_arrive 5 = .ok (.if_icmp .ge 62, 3) := by decide +kernel
theorem dX0_arrive_8 : decode cX0_arrive 8 = .ok (.aload_n 0, 1) := by decide +kernel
theorem dX0_arrive_9 : decode cX0_arrive 9 = .ok (.getfield 20, 3) := by decide +kernel
theorem dX0_arrive_12 : decode cX0_arrive 12 = .ok (.getfield 63, 3) := by decide +kernel
theorem dX0_arrive_15 : decode cX0_arrive 15 = .ok (.ifCond .le 46, 3) := by decide +kernel
theorem dX0_arrive_18 : decode cX0_arrive 18 = .ok (.aload_n 0, 1) := by decide +kernel
theorem dX0_arrive_19 : decode cX0_arrive 19 = .ok (.getfield 20, 3) := by decide +kernel
theorem dX0_arrive_22 : decode cX0_arrive 22 = .ok (.iconst 0, 1) := by decide +kernel
theorem dX0_arrive_23 : decode cX0_arrive 23 = .ok (.iconst 3, 1) := by decide +kernel
theorem dX0_arrive_24 : decode cX0_arrive 24 = .ok (.invokevirtual 66, 3) := by decide +kernel
theorem dX0_arrive_27 : decode cX0_arrive 27 = .ok (.iload_n 1, 1) := by decide +kernel
theorem dX0_arrive_28 : decode cX0_arrive 28 = .ok (.if_icmp .gt 33, 3) := by decide +kernel
theorem dX0_arrive_31 : decode cX0_arrive 31 = .ok (.aload_n 0, 1) := by decide +kernel
theorem dX0_arrive_32 : decode cX0_arrive 32 = .ok (.aload_n 0, 1) := by decide +kernel
theorem dX0_arrive_33 : decode cX0_arrive 33 = .ok (.getfield 9, 3) := by decide +kernel
theorem dX0_arrive_36 : decode cX0_arrive 36 = .ok (.aload_n 0, 1) := by decide +kernel
theorem dX0_arrive_37 : decode cX0_arrive 37 = .ok (.getfield 20, 3) := by decide +kernel
theorem dX0_arrive_40 : decode cX0_arrive 40 = .ok (.iconst 0, 1) := by decide +kernel
theorem dX0_arrive_41 : decode cX0_arrive 41 = .ok (.iconst 0, 1) := by decide +kernel
theorem dX0_arrive_42 : decode cX0_arrive 42 = .ok (.invokevirtual 66, 3) := by decide +kernel
theorem dX0_arrive_45 : decode cX0_arrive 45 = .ok (.invokevirtual 70, 3) := by decide +kernel
theorem dX0_arrive_48 : decode cX0_arrive 48 = .ok (.getfield 76, 3) := by decide +kernel
theorem dX0_arrive_51 : decode cX0_arrive 51 = .ok (.putfield 24, 3) := by decide +kernel
theorem dX0_arrive_54 : decode cX0_arrive 54 = .ok (.aload_n 0, 1) := by decide +kernel
theorem dX0_arrive_55 : decode cX0_arrive 55 = .ok (.getfield 20, 3) := by decide +kernel
theorem dX0_arrive_58 : decode cX0_arrive 58 = .ok (.invokevirtual 94, 3) := by decide +kernel
theorem dX0_arrive_61 : decode cX0_arrive 61 = .ok (.iinc 2 1, 3) := by decide +kernel
theorem dX0_arrive_64 : decode cX0_arrive 64 = .ok (.goto (-62), 3) := by decide +kernel
theorem dX0_arrive_67 : decode cX0_arrive 67 = .ok (.return_, 1) := by decide +kernel
theorem dX0_loses_0 : decode cX0_loses 0 = .ok (.iconst 0, 1) := by decide +kernel
theorem dX0_loses_1 : decode cX0_loses 1 = .ok (.istore_n 3, 1) := by decide +kernel
theorem dX0_loses_2 : decode cX0_loses 2 = .ok (.iload_n 3, 1) := by decide +kernel
theorem dX0_loses_3 : decode cX0_loses 3 = .ok (.aload_n 0, 1) := by decide +kernel
theorem dX0_loses_4 : decode cX0_loses 4 = .ok (.getfield 20, 3) := by decide +kernel
theorem dX0_loses_7 : decode cX0_loses 7 = .ok (.getfield 63, 3) := by decide +kernel
theorem dX0_loses_10 : decode cX0_loses 10 = .ok (.if_icmp .ge 57, 3) := by decide +kernel
theorem dX0_loses_13 : decode cX0_loses 13 = .ok (.aload_n 0, 1) := by decide +kernel
theorem dX0_loses_14 : decode cX0_loses 14 = .ok (.getfield 20, 3) := by decide +kernel
theorem dX0_loses_17 : decode cX0_loses 17 = .ok (.iload_n 3, 1) := by decide +kernel
theorem dX0_loses_18 : decode cX0_loses 18 = .ok (.iconst 0, 1) := by decide +kernel
theorem dX0_loses_19 : decode cX0_loses 19 = .ok (.invokevirtual 66, 3) := by decide +kernel
theorem dX0_loses_22 : decode cX0_loses 22 = .ok (.iload_n 1, 1) := by decide +kernel
theorem dX0_loses_23 : decode cX0_loses 23 = .ok (.if_icmp .ne 38, 3) := by decide +kernel
theorem dX0_loses_26 : decode cX0_loses 26 = .ok (.aload_n 0, 1) := by decide +kernel
theorem dX0_loses_27 : decode cX0_loses 27 = .ok (.getfield 20, 3) := by decide +kernel
theorem dX0_loses_30 : decode cX0_loses 30 = .ok (.iload_n 3, 1) := by decide +kernel
theorem dX0_loses_31 : decode cX0_loses 31 = .ok (.iconst 2, 1) := by decide +kernel
theorem dX0_loses_32 : decode cX0_loses 32 = .ok (.invokevirtual 66, 3) := by decide +kernel
theorem dX0_loses_35 : decode cX0_loses 35 = .ok (.iload_n 2, 1) := by decide +kernel
theorem dX0_loses_36 : decode cX0_loses 36 = .ok (.if_icmp .le 25, 3) := by decide +kernel
theorem dX0_loses_39 : decode cX0_loses 39 = .ok (.aload_n 0, 1) := by decide +kernel
theorem dX0_loses_40 : decode cX0_loses 40 = .ok (.getfield 20, 3) := by decide +kernel
theorem dX0_loses_43 : decode cX0_loses 43 = .ok (.iload_n 3, 1) := by decide +kernel
theorem dX0_loses_44 : decode cX0_loses 44 = .ok (.ifCond .ne 7, 3) := by decide +kernel
theorem dX0_loses_47 : decode cX0_loses 47 = .ok (.iconst 0, 1) := by decide +kernel
theorem dX0_loses_48 : decode cX0_loses 48 = .ok (.goto 8, 3) := by decide +kernel
theorem dX0_loses_51 : decode cX0_loses 51 = .ok (.aload_n 0, 1) := by decide +kernel
theorem dX0_loses_52 : decode cX0_loses 52 = .ok (.iload_n 2, 1) := by decide +kernel
theorem dX0_loses_53 : decode cX0_loses 53 = .ok (.invokevirtual 91, 3) := by decide +kernel
theorem dX0_loses_56 : decode cX0_loses 56 = .ok (.invokevirtual 47, 3) := by decide +kernel
theorem dX0_loses_59 : decode cX0_loses 59 = .ok (.iconst 1, 1) := by decide +kernel
theorem dX0_loses_60 : decode cX0_loses 60 = .ok (.ireturn, 1) := by decide +kernel
theorem dX0_loses_61 : decode cX0_loses 61 = .ok (.iinc 3 1, 3) := by decide +kernel
theorem dX0_loses_64 : decode cX0_loses 64 = .ok (.goto (-62), 3) := by decide +kernel
theorem dX0_loses_67 : decode cX0_loses 67 = .ok (.iconst 0, 1) := by decide +kernel
theorem dX0_loses_68 : decode cX0_loses 68 = .ok (.ireturn, 1) := by decide +kernel
theorem dX0_takes_0 : decode cX0_takes 0 = .ok (.iconst 0, 1) := by decide +kernel
theorem dX0_takes_1 : decode cX0_takes 1 = .ok (.istore_n 3, 1) := by decide +kernel
theorem dX0_takes_2 : decode cX0_takes 2 = .ok (.iload_n 3, 1) := by decide +kernel
theorem dX0_takes_3 : decode cX0_takes 3 = .ok (.aload_n 0, 1) := by decide +kernel
theorem dX0_takes_4 : decode cX0_takes 4 = .ok (.getfield 20, 3) := by decide +kernel
theorem dX0_takes_7 : decode cX0_takes 7 = .ok (.getfield 63, 3) := by decide +kernel
theorem dX0_takes_10 : decode cX0_takes 10 = .ok (.if_icmp .ge 50, 3) := by decide +kernel
theorem dX0_takes_13 : decode cX0_takes 13 = .ok (.aload_n 0, 1) := by decide +kernel
theorem dX0_takes_14 : decode cX0_takes 14 = .ok (.getfield 20, 3) := by decide +kernel
theorem dX0_takes_17 : decode cX0_takes 17 = .ok (.iload_n 3, 1) := by decide +kernel
theorem dX0_takes_18 : decode cX0_takes 18 = .ok (.iconst 0, 1) := by decide +kernel
theorem dX0_takes_19 : decode cX0_takes 19 = .ok (.invokevirtual 66, 3) := by decide +kernel
theorem dX0_takes_22 : decode cX0_takes 22 = .ok (.iload_n 1, 1) := by decide +kernel
theorem dX0_takes_23 : decode cX0_takes 23 = .ok (.if_icmp .ne 31, 3) := by decide +kernel
theorem dX0_takes_26 : decode cX0_takes 26 = .ok (.aload_n 0, 1) := by decide +kernel
theorem dX0_takes_27 : decode cX0_takes 27 = .ok (.getfield 20, 3) := by decide +kernel
theorem dX0_takes_30 : decode cX0_takes 30 = .ok (.iload_n 3, 1) := by decide +kernel
theorem dX0_takes_31 : decode cX0_takes 31 = .ok (.iconst 1, 1) := by decide +kernel
theorem dX0_takes_32 : decode cX0_takes 32 = .ok (.invokevirtual 66, 3) := by decide +kernel
theorem dX0_takes_35 : decode cX0_takes 35 = .ok (.iload_n 2, 1) := by decide +kernel
theorem dX0_takes_36 : decode cX0_takes 36 = .ok (.if_icmp .gt 18, 3) := by decide +kernel
theorem dX0_takes_39 : decode cX0_takes 39 = .ok (.iload_n 2, 1) := by decide +kernel
theorem dX0_takes_40 : decode cX0_takes 40 = .ok (.aload_n 0, 1) := by decide +kernel
theorem dX0_takes_41 : decode cX0_takes 41 = .ok (.getfield 20, 3) := by decide +kernel
theorem dX0_takes_44 : decode cX0_takes 44 = .ok (.iload_n 3, 1) := by decide +kernel
theorem dX0_takes_45 : decode cX0_takes 45 = .ok (.iconst 2, 1) := by decide +kernel
theorem dX0_takes_46 : decode cX0_takes 46 = .ok (.invokevirtual 66, 3) := by decide +kernel
theorem dX0_takes_49 : decode cX0_takes 49 = .ok (.if_icmp .ge 5, 3) := by decide +kernel
theorem dX0_takes_52 : decode cX0_takes 52 = .ok (.iconst 1, 1) := by decide +kernel
theorem dX0_takes_53 : decode cX0_takes 53 = .ok (.ireturn, 1) := by decide +kernel
theorem dX0_takes_54 : decode cX0_takes 54 = .ok (.iinc 3 1, 3) := by decide +kernel
theorem dX0_takes_57 : decode cX0_takes 57 = .ok (.goto (-55), 3) := by decide +kernel
theorem dX0_takes_60 : decode cX0_takes 60 = .ok (.iconst 0, 1) := by decide +kernel
theorem dX0_takes_61 : decode cX0_takes 61 = .ok (.ireturn, 1) := by decide +kernel
theorem dX0_standsInTheWayOf_0 : decode cX0_standsInTheWayOf 0 = .ok (.aload_n 0, 1) := by decide +kernel
theorem dX0_standsInTheWayOf_1 : decode cX0_standsInTheWayOf 1 = .ok (.iload_n 2, 1) := by decide +kernel
theorem dX0_standsInTheWayOf_2 : decode cX0_standsInTheWayOf 2 = .ok (.invokevirtual 91, 3) := by decide +kernel
theorem dX0_standsInTheWayOf_5 : decode cX0_standsInTheWayOf 5 = .ok (.istore_n 3, 1) := by decide +kernel
theorem dX0_standsInTheWayOf_6 : decode cX0_standsInTheWayOf 6 = .ok (.iload_n 3, 1) := by decide +kernel
theorem dX0_standsInTheWayOf_7 : decode cX0_standsInTheWayOf 7 = .ok (.aload_n 0, 1) := by decide +kernel
theorem dX0_standsInTheWayOf_8 : decode cX0_standsInTheWayOf 8 = .ok (.getfield 20, 3) := by decide +kernel
theorem dX0_standsInTheWayOf_11 : decode cX0_standsInTheWayOf 11 = .ok (.getfield 63, 3) := by decide +kernel
theorem dX0_standsInTheWayOf_14 : decode cX0_standsInTheWayOf 14 = .ok (.if_icmp .ge 98, 3) := by decide +kernel
theorem dX0_standsInTheWayOf_17 : decode cX0_standsInTheWayOf 17 = .ok (.iconst 0, 1) := by decide +kernel
theorem dX0_standsInTheWayOf_18 : decode cX0_standsInTheWayOf 18 = .ok (.istore 4, 2) := by decide +kernel
theorem dX0_standsInTheWayOf_20 : decode cX0_standsInTheWayOf 20 = .ok (.iload 4, 2) := by decide +kernel
theorem dX0_standsInTheWayOf_22 : decode cX0_standsInTheWayOf 22 = .ok (.aload_n 1, 1) := by decide +kernel
theorem dX0_standsInTheWayOf_23 : decode cX0_standsInTheWayOf 23 = .ok (.getfield 20, 3) := by decide +kernel
theorem dX0_standsInTheWayOf_26 : decode cX0_standsInTheWayOf 26 = .ok (.getfield 63, 3) := by decide +kernel
theorem dX0_standsInTheWayOf_29 : decode cX0_standsInTheWayOf 29 = .ok (.if_icmp .ge 77, 3) := by decide +kernel
theorem dX0_standsInTheWayOf_32 : decode cX0_standsInTheWayOf 32 = .ok (.aload_n 0, 1) := by decide +kernel
theorem dX0_standsInTheWayOf_33 : decode cX0_standsInTheWayOf 33 = .ok (.getfield 20, 3) := by decide +kernel
theorem dX0_standsInTheWayOf_36 : decode cX0_standsInTheWayOf 36 = .ok (.iload_n 3, 1) := by decide +kernel
theorem dX0_standsInTheWayOf_37 : decode cX0_standsInTheWayOf 37 = .ok (.iconst 0, 1) := by decide +kernel
theorem dX0_standsInTheWayOf_38 : decode cX0_standsInTheWayOf 38 = .ok (.invokevirtual 66, 3) := by decide +kernel
theorem dX0_standsInTheWayOf_41 : decode cX0_standsInTheWayOf 41 = .ok (.aload_n 1, 1) := by decide +kernel
theorem dX0_standsInTheWayOf_42 : decode cX0_standsInTheWayOf 42 = .ok (.getfield 20, 3) := by decide +kernel
theorem dX0_standsInTheWayOf_45 : decode cX0_standsInTheWayOf 45 = .ok (.iload 4, 2) := by decide +kernel
theorem dX0_standsInTheWayOf_47 : decode cX0_standsInTheWayOf 47 = .ok (.iconst 0, 1) := by decide +kernel
theorem dX0_standsInTheWayOf_48 : decode cX0_standsInTheWayOf 48 = .ok (.invokevirtual 66, 3) := by decide +kernel
theorem dX0_standsInTheWayOf_51 : decode cX0_standsInTheWayOf 51 = .ok (.if_icmp .ne 49, 3) := by decide +kernel
theorem dX0_standsInTheWayOf_54 : decode cX0_standsInTheWayOf 54 = .ok (.aload_n 0, 1) := by decide +kernel
theorem dX0_standsInTheWayOf_55 : decode cX0_standsInTheWayOf 55 = .ok (.getfield 20, 3) := by decide +kernel
theorem dX0_standsInTheWayOf_58 : decode cX0_standsInTheWayOf 58 = .ok (.iload_n 3, 1) := by decide +kernel
theorem dX0_standsInTheWayOf_59 : decode cX0_standsInTheWayOf 59 = .ok (.iconst 1, 1) := by decide +kernel
theorem dX0_standsInTheWayOf_60 : decode cX0_standsInTheWayOf 60 = .ok (.invokevirtual 66, 3) := by decide +kernel
theorem dX0_standsInTheWayOf_63 : decode cX0_standsInTheWayOf 63 = .ok (.aload_n 1, 1) := by decide +kernel
theorem dX0_standsInTheWayOf_64 : decode cX0_standsInTheWayOf 64 = .ok (.getfield 20, 3) := by decide +kernel
theorem dX0_standsInTheWayOf_67 : decode cX0_standsInTheWayOf 67 = .ok (.iload 4, 2) := by decide +kernel
theorem dX0_standsInTheWayOf_69 : decode cX0_standsInTheWayOf 69 = .ok (.iconst 2, 1) := by decide +kernel
theorem dX0_standsInTheWayOf_70 : decode cX0_standsInTheWayOf 70 = .ok (.invokevirtual 66, 3) := by decide +kernel
theorem dX0_standsInTheWayOf_73 : decode cX0_standsInTheWayOf 73 = .ok (.if_icmp .ge 27, 3) := by decide +kernel
theorem dX0_standsInTheWayOf_76 : decode cX0_standsInTheWayOf 76 = .ok (.aload_n 1, 1) := by decide +kernel
theorem dX0_standsInTheWayOf_77 : decode cX0_standsInTheWayOf 77 = .ok (.getfield 20, 3) := by decide +kernel
theorem dX0_standsInTheWayOf_80 : decode cX0_standsInTheWayOf 80 = .ok (.iload 4, 2) := by decide +kernel
theorem dX0_standsInTheWayOf_82 : decode cX0_standsInTheWayOf 82 = .ok (.iconst 1, 1) := by decide +kernel
theorem dX0_standsInTheWayOf_83 : decode cX0_standsInTheWayOf 83 = .ok (.invokevirtual 66, 3) := by decide +kernel
theorem dX0_standsInTheWayOf_86 : decode cX0_standsInTheWayOf 86 = .ok (.aload_n 0, 1) := by decide +kernel
theorem dX0_standsInTheWayOf_87 : decode cX0_standsInTheWayOf 87 = .ok (.getfield 20, 3) := by decide +kernel
theorem dX0_standsInTheWayOf_90 : decode cX0_standsInTheWayOf 90 = .ok (.iload_n 3, 1) := by decide +kernel
theorem dX0_standsInTheWayOf_91 : decode cX0_standsInTheWayOf 91 = .ok (.iconst 2, 1) := by decide +kernel
theorem dX0_standsInTheWayOf_92 : decode cX0_standsInTheWayOf 92 = .ok (.invokevirtual 66, 3) := by decide +kernel
theorem dX0_standsInTheWayOf_95 : decode cX0_standsInTheWayOf 95 = .ok (.if_icmp .ge 5, 3) := by decide +kernel
theorem dX0_standsInTheWayOf_98 : decode cX0_standsInTheWayOf 98 = .ok (.iconst 1, 1) := by decide +kernel
theorem dX0_standsInTheWayOf_99 : decode cX0_standsInTheWayOf 99 = .ok (.ireturn, 1) := by decide +kernel
theorem dX0_standsInTheWayOf_100 : decode cX0_standsInTheWayOf 100 = .ok (.iinc 4 1, 3) := by decide +kernel
theorem dX0_standsInTheWayOf_103 : decode cX0_standsInTheWayOf 103 = .ok (.goto (-83), 3) := by decide +kernel
theorem dX0_standsInTheWayOf_106 : decode cX0_standsInTheWayOf 106 = .ok (.iinc 3 1, 3) := by decide +kernel
theorem dX0_standsInTheWayOf_109 : decode cX0_standsInTheWayOf 109 = .ok (.goto (-103), 3) := by decide +kernel
theorem dX0_standsInTheWayOf_112 : decode cX0_standsInTheWayOf 112 = .ok (.iconst 0, 1) := by decide +kernel
theorem dX0_standsInTheWayOf_113 : decode cX0_standsInTheWayOf 113 = .ok (.ireturn, 1) := by decide +kernel
theorem dX7_reset_0 : decode cX7_reset 0 = .ok (.aload_n 0, 1) := by decide +kernel
theorem dX7_reset_1 : decode cX7_reset 1 = .ok (.iconst 0, 1) := by decide +kernel
theorem dX7_reset_2 : decode cX7_reset 2 = .ok (.putfield 24, 3) := by decide +kernel
theorem dX7_reset_5 : decode cX7_reset 5 = .ok (.aload_n 0, 1) := by decide +kernel
theorem dX7_reset_6 : decode cX7_reset 6 = .ok (.iconst 0, 1) := by decide +kernel
theorem dX7_reset_7 : decode cX7_reset 7 = .ok (.putfield 28, 3) := by decide +kernel
theorem dX7_reset_10 : decode cX7_reset 10 = .ok (.aload_n 0, 1) := by decide +kernel
theorem dX7_reset_11 : decode cX7_reset 11 = .ok (.iconst 0, 1) := by decide +kernel
theorem dX7_reset_12 : decode cX7_reset 12 = .ok (.putfield 31, 3) := by decide +kernel
theorem dX7_reset_15 : decode cX7_reset 15 = .ok (.return_, 1) := by decide +kernel
theorem dX7_copyFrom_0 : decode cX7_copyFrom 0 = .ok (.aload_n 0, 1) := by decide +kernel
theorem dX7_copyFrom_1 : decode cX7_copyFrom 1 = .ok (.aload_n 1, 1) := by decide +kernel
theorem dX7_copyFrom_2 : decode cX7_copyFrom 2 = .ok (.getfield 24, 3) := by decide +kernel
theorem dX7_copyFrom_5 : decode cX7_copyFrom 5 = .ok (.putfield 24, 3) := by decide +kernel
theorem dX7_copyFrom_8 : decode cX7_copyFrom 8 = .ok (.aload_n 0, 1) := by decide +kernel
theorem dX7_copyFrom_9 : decode cX7_copyFrom 9 = .ok (.aload_n 1, 1) := by decide +kernel
theorem dX7_copyFrom_10 : decode cX7_copyFrom 10 = .ok (.getfield 28, 3) := by decide +kernel
theorem dX7_copyFrom_13 : decode cX7_copyFrom 13 = .ok (.putfield 28, 3) := by decide +kernel
theorem dX7_copyFrom_16 : decode cX7_copyFrom 16 = .ok (.aload_n 0, 1) := by decide +kernel
theorem dX7_copyFrom_17 : decode cX7_copyFrom 17 = .ok (.aload_n 1, 1) := by decide +kernel
theorem dX7_copyFrom_18 : decode cX7_copyFrom 18 = .ok (.getfield 31, 3) := by decide +kernel
theorem dX7_copyFrom_21 : decode cX7_copyFrom 21 = .ok (.putfield 31, 3) := by decide +kernel
theorem dX7_copyFrom_24 : decode cX7_copyFrom 24 = .ok (.iconst 0, 1) := by decide +kernel
theorem dX7_copyFrom_25 : decode cX7_copyFrom 25 = .ok (.istore_n 2, 1) := by decide +kernel
theorem dX7_copyFrom_26 : decode cX7_copyFrom 26 = .ok (.iload_n 2, 1) := by decide +kernel
theorem dX7_copyFrom_27 : decode cX7_copyFrom 27 = .ok (.aload_n 0, 1) := by decide +kernel
theorem dX7_copyFrom_28 : decode cX7_copyFrom 28 = .ok (.getfield 24, 3) := by decide +kernel
theorem dX7_copyFrom_31 : decode cX7_copyFrom 31 = .ok (.if_icmp .ge 22, 3) := by decide +kernel
theorem dX7_copyFrom_34 : decode cX7_copyFrom 34 = .ok (.aload_n 0, 1) := by decide +kernel
theorem dX7_copyFrom_35 : decode cX7_copyFrom 35 = .ok (.iload_n 2, 1) := by decide +kernel
theorem dX7_copyFrom_36 : decode cX7_copyFrom 36 = .ok (.invokevirtual 34, 3) := by decide +kernel
theorem dX7_copyFrom_39 : decode cX7_copyFrom 39 = .ok (.aload_n 1, 1) := by decide +kernel
theorem dX7_copyFrom_40 : decode cX7_copyFrom 40 = .ok (.iload_n 2, 1) := by decide +kernel
theorem dX7_copyFrom_41 : decode cX7_copyFrom 41 = .ok (.invokevirtual 34, 3) := by decide +kernel
theorem dX7_copyFrom_44 : decode cX7_copyFrom 44 = .ok (.invokevirtual 38, 3) := by decide +kernel
theorem dX7_copyFrom_47 : decode cX7_copyFrom 47 = .ok (.iinc 2 1, 3) := by decide +kernel
theorem dX7_copyFrom_50 : decode cX7_copyFrom 50 = .ok (.goto (-24), 3) := by decide +kernel
theorem dX7_copyFrom_53 : decode cX7_copyFrom 53 = .ok (.return_, 1) := by decide +kernel
theorem dX7_hasBundle_0 : decode cX7_hasBundle 0 = .ok (.iload_n 1, 1) := by decide +kernel
theorem dX7_hasBundle_1 : decode cX7_hasBundle 1 = .ok (.ifCond .lt 15, 3) := by decide +kernel
theorem dX7_hasBundle_4 : decode cX7_hasBundle 4 = .ok (.iload_n 1, 1) := by decide +kernel
theorem dX7_hasBundle_5 : decode cX7_hasBundle 5 = .ok (.aload_n 0, 1) := by decide +kernel
theorem dX7_hasBundle_6 : decode cX7_hasBundle 6 = .ok (.getfield 24, 3) := by decide +kernel
theorem dX7_hasBundle_9 : decode cX7_hasBundle 9 = .ok (.if_icmp .ge 7, 3) := by decide +kernel
theorem dX7_hasBundle_12 : decode cX7_hasBundle 12 = .ok (.iconst 1, 1) := by decide +kernel
theorem dX7_hasBundle_13 : decode cX7_hasBundle 13 = .ok (.goto 4, 3) := by decide +kernel
theorem dX7_hasBundle_16 : decode cX7_hasBundle 16 = .ok (.iconst 0, 1) := by decide +kernel
theorem dX7_hasBundle_17 : decode cX7_hasBundle 17 = .ok (.ireturn, 1) := by decide +kernel
theorem dX7_bundleAt_0 : decode cX7_bundleAt 0 = .ok (.iload_n 1, 1) := by decide +kernel
theorem dX7_bundleAt_1 : decode cX7_bundleAt 1 = .ok (.ifCond .lt 12, 3) := by decide +kernel
theorem dX7_bundleAt_4 : decode cX7_bundleAt 4 = .ok (.iload_n 1, 1) := by decide +kernel
theorem dX7_bundleAt_5 : decode cX7_bundleAt 5 = .ok (.aload_n 0, 1) := by decide +kernel
theorem dX7_bundleAt_6 : decode cX7_bundleAt 6 = .ok (.getfield 20, 3) := by decide +kernel
theorem dX7_bundleAt_9 : decode cX7_bundleAt 9 = .ok (.arraylength, 1) := by decide +kernel
theorem dX7_bundleAt_10 : decode cX7_bundleAt 10 = .ok (.if_icmp .lt 8, 3) := by decide +kernel
theorem dX7_bundleAt_13 : decode cX7_bundleAt 13 = .ok (.aload_n 0, 1) := by decide +kernel
theorem dX7_bundleAt_14 : decode cX7_bundleAt 14 = .ok (.getfield 14, 3) := by decide +kernel
theorem dX7_bundleAt_17 : decode cX7_bundleAt 17 = .ok (.areturn, 1) := by decide +kernel
theorem dX7_bundleAt_18 : decode cX7_bundleAt 18 = .ok (.aload_n 0, 1) := by decide +kernel
theorem dX7_bundleAt_19 : decode cX7_bundleAt 19 = .ok (.getfield 20, 3) := by decide +kernel
theorem dX7_bundleAt_22 : decode cX7_bundleAt 22 = .ok (.iload_n 1, 1) := by decide +kernel
theorem dX7_bundleAt_23 : decode cX7_bundleAt 23 = .ok (.aaload, 1) := by decide +kernel
theorem dX7_bundleAt_24 : decode cX7_bundleAt 24 = .ok (.astore_n 2, 1) := by decide +kernel
theorem dX7_bundleAt_25 : decode cX7_bundleAt 25 = .ok (.aload_n 2, 1) := by decide +kernel
theorem dX7_bundleAt_26 : decode cX7_bundleAt 26 = .ok (.ifnonnull 10, 3) := by decide +kernel
theorem dX7_bundleAt_29 : decode cX7_bundleAt 29 = .ok (.aload_n 0, 1) := by decide +kernel
theorem dX7_bundleAt_30 : decode cX7_bundleAt 30 = .ok (.getfield 14, 3) := by decide +kernel
theorem dX7_bundleAt_33 : decode cX7_bundleAt 33 = .ok (.goto 4, 3) := by decide +kernel
theorem dX7_bundleAt_36 : decode cX7_bundleAt 36 = .ok (.aload_n 2, 1) := by decide +kernel
theorem dX7_bundleAt_37 : decode cX7_bundleAt 37 = .ok (.areturn, 1) := by decide +kernel
theorem dX7_addBundle_0 : decode cX7_addBundle 0 = .ok (.aload_n 0, 1) := by decide +kernel
theorem dX7_addBundle_1 : decode cX7_addBundle 1 = .ok (.dup, 1) := by decide +kernel
theorem dX7_addBundle_2 : decode cX7_addBundle 2 = .ok (.getfield 24, 3) := by decide +kernel
theorem dX7_addBundle_5 : decode cX7_addBundle 5 = .ok (.iconst 1, 1) := by decide +kernel
theorem dX7_addBundle_6 : decode cX7_addBundle 6 = .ok (.iadd, 1) := by decide +kernel
theorem dX7_addBundle_7 : decode cX7_addBundle 7 = .ok (.putfield 24, 3) := by decide +kernel
theorem dX7_addBundle_10 : decode cX7_addBundle 10 = .ok (.aload_n 0, 1) := by decide +kernel
theorem dX7_addBundle_11 : decode cX7_addBundle 11 = .ok (.getfield 24, 3) := by decide +kernel
theorem dX7_addBundle_14 : decode cX7_addBundle 14 = .ok (.iconst 1, 1) := by decide +kernel
theorem dX7_addBundle_15 : decode cX7_addBundle 15 = .ok (.isub, 1) := by decide +kernel
theorem dX7_addBundle_16 : decode cX7_addBundle 16 = .ok (.ireturn, 1) := by decide +kernel
theorem dX7_isMissed_0 : decode cX7_isMissed 0 = .ok (.aload_n 0, 1) := by decide +kernel
theorem dX7_isMissed_1 : decode cX7_isMissed 1 = .ok (.getfield 31, 3) := by decide +kernel
theorem dX7_isMissed_4 : decode cX7_isMissed 4 = .ok (.iload_n 1, 1) := by decide +kernel
theorem dX7_isMissed_5 : decode cX7_isMissed 5 = .ok (.ishr, 1) := by decide +kernel
theorem dX7_isMissed_6 : decode cX7_isMissed 6 = .ok (.iconst 1, 1) := by decide +kernel
theorem dX7_isMissed_7 : decode cX7_isMissed 7 = .ok (.iand, 1) := by decide +kernel
theorem dX7_isMissed_8 : decode cX7_isMissed 8 = .ok (.iconst 1, 1) := by decide +kernel
theorem dX7_isMissed_9 : decode cX7_isMissed 9 = .ok (.if_icmp .ne 7, 3) := by decide +kernel
theorem dX7_isMissed_12 : decode cX7_isMissed 12 = .ok (.iconst 1, 1) := by decide +kernel
theorem dX7_isMissed_13 : decode cX7_isMissed 13 = .ok (.goto 4, 3) := by decide +kernel
theorem dX7_isMissed_16 : decode cX7_isMissed 16 = .ok (.iconst 0, 1) := by decide +kernel
theorem dX7_isMissed_17 : decode cX7_isMissed 17 = .ok (.ireturn, 1) := by decide +kernel
theorem dX7_isOpen_0 : decode cX7_isOpen 0 = .ok (.aload_n 0, 1) := by decide +kernel
theorem dX7_isOpen_1 : decode cX7_isOpen 1 = .ok (.iload_n 1, 1) := by decide +kernel
theorem dX7_isOpen_2 : decode cX7_isOpen 2 = .ok (.invokevirtual 34, 3) := by decide +kernel
theorem dX7_isOpen_5 : decode cX7_isOpen 5 = .ok (.aload_n 0, 1) := by decide +kernel
theorem dX7_isOpen_6 : decode cX7_isOpen 6 = .ok (.getfield 28, 3) := by decide +kernel
theorem dX7_isOpen_9 : decode cX7_isOpen 9 = .ok (.invokevirtual 42, 3) := by decide +kernel
theorem dX7_isOpen_12 : decode cX7_isOpen 12 = .ok (.istore_n 2, 1) := by decide +kernel
theorem dX7_isOpen_13 : decode cX7_isOpen 13 = .ok (.iload_n 2, 1) := by decide +kernel
theorem dX7_isOpen_14 : decode cX7_isOpen 14 = .ok (.ifCond .eq 8, 3) := by decide +kernel
theorem dX7_isOpen_17 : decode cX7_isOpen 17 = .ok (.iload_n 2, 1) := by decide +kernel
theorem dX7_isOpen_18 : decode cX7_isOpen 18 = .ok (.iconst 1, 1) := by decide +kernel
theorem dX7_isOpen_19 : decode cX7_isOpen 19 = .ok (.if_icmp .ne 7, 3) := by decide +kernel
theorem dX7_isOpen_22 : decode cX7_isOpen 22 = .ok (.iconst 1, 1) := by decide +kernel
theorem dX7_isOpen_23 : decode cX7_isOpen 23 = .ok (.goto 4, 3) := by decide +kernel
theorem dX7_isOpen_26 : decode cX7_isOpen 26 = .ok (.iconst 0, 1) := by decide +kernel
theorem dX7_isOpen_27 : decode cX7_isOpen 27 = .ok (.ireturn, 1) := by decide +kernel
theorem dX7_countStanding_0 : decode cX7_countStanding 0 = .ok (.aload_n 0, 1) := by decide +kernel
theorem dX7_countStanding_1 : decode cX7_countStanding 1 = .ok (.iload_n 1, 1) := by decide +kernel
theorem dX7_countStanding_2 : decode cX7_countStanding 2 = .ok (.invokevirtual 46, 3) := by decide +kernel
theorem dX7_countStanding_5 : decode cX7_countStanding 5 = .ok (.invokestatic 49, 3) := by decide +kernel
theorem dX7_countStanding_8 : decode cX7_countStanding 8 = .ok (.ireturn, 1) := by decide +kernel
theorem dX7_allStanding_0 : decode cX7_allStanding 0 = .ok (.iconst 0, 1) := by decide +kernel
theorem dX7_allStanding_1 : decode cX7_allStanding 1 = .ok (.istore_n 2, 1) := by decide +kernel
theorem dX7_allStanding_2 : decode cX7_allStanding 2 = .ok (.iconst 0, 1) := by decide +kernel
theorem dX7_allStanding_3 : decode cX7_allStanding 3 = .ok (.istore_n 3, 1) := by decide +kernel
theorem dX7_allStanding_4 : decode cX7_allStanding 4 = .ok (.iload_n 3, 1) := by decide +kernel
theorem dX7_allStanding_5 : decode cX7_allStanding 5 = .ok (.aload_n 0, 1) := by decide +kernel
theorem dX7_allStanding_6 : decode cX7_allStanding 6 = .ok (.getfield 24, 3) := by decide +kernel
theorem dX7_allStanding_9 : decode cX7_allStanding 9 = .ok (.if_icmp .ge 31, 3) := by decide +kernel
theorem dX7_allStanding_12 : decode cX7_allStanding 12 = .ok (.aload_n 0, 1) := by decide +kernel
theorem dX7_allStanding_13 : decode cX7_allStanding 13 = .ok (.iload_n 3, 1) := by decide +kernel
theorem dX7_allStanding_14 : decode cX7_allStanding 14 = .ok (.invokevirtual 34, 3) := by decide +kernel
theorem dX7_allStanding_17 : decode cX7_allStanding 17 = .ok (.aload_n 0, 1) := by decide +kernel
theorem dX7_allStanding_18 : decode cX7_allStanding 18 = .ok (.getfield 28, 3) := by decide +kernel
theorem dX7_allStanding_21 : decode cX7_allStanding 21 = .ok (.invokevirtual 42, 3) := by decide +kernel
theorem dX7_allStanding_24 : decode cX7_allStanding 24 = .ok (.iload_n 1, 1) := by decide +kernel
theorem dX7_allStanding_25 : decode cX7_allStanding 25 = .ok (.if_icmp .ne 9, 3) := by decide +kernel
theorem dX7_allStanding_28 : decode cX7_allStanding 28 = .ok (.iload_n 2, 1) := by decide +kernel
theorem dX7_allStanding_29 : decode cX7_allStanding 29 = .ok (.iconst 1, 1) := by decide +kernel
theorem dX7_allStanding_30 : decode cX7_allStanding 30 = .ok (.iload_n 3, 1) := by decide +kernel
theorem dX7_allStanding_31 : decode cX7_allStanding 31 = .ok (.ishl, 1) := by decide +kernel
theorem dX7_allStanding_32 : decode cX7_allStanding 32 = .ok (.ior, 1) := by decide +kernel
theorem dX7_allStanding_33 : decode cX7_allStanding 33 = .ok (.istore_n 2, 1) := by decide +kernel
theorem dX7_allStanding_34 : decode cX7_allStanding 34 = .ok (.iinc 3 1, 3) := by decide +kernel
theorem dX7_allStanding_37 : decode cX7_allStanding 37 = .ok (.goto (-33), 3) := by decide +kernel
theorem dX7_allStanding_40 : decode cX7_allStanding 40 = .ok (.iload_n 2, 1) := by decide +kernel
theorem dX7_allStanding_41 : decode cX7_allStanding 41 = .ok (.ireturn, 1) := by decide +kernel
theorem dX7_tickAtGoal_0 : decode cX7_tickAtGoal 0 = .ok (.aload_n 0, 1) := by decide +kernel
theorem dX7_tickAtGoal_1 : decode cX7_tickAtGoal 1 = .ok (.iload_n 1, 1) := by decide +kernel
theorem dX7_tickAtGoal_2 : decode cX7_tickAtGoal 2 = .ok (.invokevirtual 34, 3) := by decide +kernel
theorem dX7_tickAtGoal_5 : decode cX7_tickAtGoal 5 = .ok (.aload_n 0, 1) := by decide +kernel
theorem dX7_tickAtGoal_6 : decode cX7_tickAtGoal 6 = .ok (.getfield 28, 3) := by decide +kernel
theorem dX7_tickAtGoal_9 : decode cX7_tickAtGoal 9 = .ok (.invokevirtual 42, 3) := by decide +kernel
theorem dX7_tickAtGoal_12 : decode cX7_tickAtGoal 12 = .ok (.istore_n 2, 1) := by decide +kernel
theorem dX7_tickAtGoal_13 : decode cX7_tickAtGoal 13 = .ok (.iload_n 2, 1) := by decide +kernel
theorem dX7_tickAtGoal_14 : decode cX7_tickAtGoal 14 = .ok (.iconst 2, 1) := by decide +kernel
theorem dX7_tickAtGoal_15 : decode cX7_tickAtGoal 15 = .ok (.if_icmp .ne 8, 3) := by decide +kernel
theorem dX7_tickAtGoal_18 : decode cX7_tickAtGoal 18 = .ok (.aload_n 0, 1) := by decide +kernel
theorem dX7_tickAtGoal_19 : decode cX7_tickAtGoal 19 = .ok (.getfield 28, 3) := by decide +kernel
theorem dX7_tickAtGoal_22 : decode cX7_tickAtGoal 22 = .ok (.ireturn, 1) := by decide +kernel
theorem dX7_tickAtGoal_23 : decode cX7_tickAtGoal 23 = .ok (.iload_n 2, 1) := by decide +kernel
theorem dX7_tickAtGoal_24 : decode cX7_tickAtGoal 24 = .ok (.iconst 1, 1) := by decide +kernel
theorem dX7_tickAtGoal_25 : decode cX7_tickAtGoal 25 = .ok (.if_icmp .ne 14, 3) := by decide +kernel
theorem dX7_tickAtGoal_28 : decode cX7_tickAtGoal 28 = .ok (.aload_n 0, 1) := by decide +kernel
theorem dX7_tickAtGoal_29 : decode cX7_tickAtGoal 29 = .ok (.iload_n 1, 1) := by decide +kernel
theorem dX7_tickAtGoal_30 : decode cX7_tickAtGoal 30 = .ok (.invokevirtual 34, 3) := by decide +kernel
theorem dX7_tickAtGoal_33 : decode cX7_tickAtGoal 33 = .ok (.invokevirtual 54, 3) := by decide +kernel
theorem dX7_tickAtGoal_36 : decode cX7_tickAtGoal 36 = .ok (.goto 5, 3) := by decide +kernel
theorem dX7_tickAtGoal_39 : decode cX7_tickAtGoal 39 = .ok (.bipush (-9), 2) := by decide +kernel
theorem dX7_tickAtGoal_41 : decode cX7_tickAtGoal 41 = .ok (.ireturn, 1) := by decide +kernel
theorem dX7_takerOf_0 : decode cX7_takerOf 0 = .ok (.iconst 0, 1) := by decide +kernel
theorem dX7_takerOf_1 : decode cX7_takerOf 1 = .ok (.istore_n 3, 1) := by decide +kernel
theorem dX7_takerOf_2 : decode cX7_takerOf 2 = .ok (.iload_n 3, 1) := by decide +kernel
theorem dX7_takerOf_3 : decode cX7_takerOf 3 = .ok (.aload_n 0, 1) := by decide +kernel
theorem dX7_takerOf_4 : decode cX7_takerOf 4 = .ok (.getfield 24, 3) := by decide +kernel
theorem dX7_takerOf_7 : decode cX7_takerOf 7 = .ok (.if_icmp .ge 24, 3) := by decide +kernel
theorem dX7_takerOf_10 : decode cX7_takerOf 10 = .ok (.aload_n 0, 1) := by decide +kernel
theorem dX7_takerOf_11 : decode cX7_takerOf 11 = .ok (.iload_n 3, 1) := by decide +kernel
theorem dX7_takerOf_12 : decode cX7_takerOf 12 = .ok (.invokevirtual 34, 3) := by decide +kernel
theorem dX7_takerOf_15 : decode cX7_takerOf 15 = .ok (.iload_n 1, 1) := by decide +kernel
theorem dX7_takerOf_16 : decode cX7_takerOf 16 = .ok (.iload_n 2, 1) := by decide +kernel
theorem dX7_takerOf_17 : decode cX7_takerOf 17 = .ok (.invokevirtual 58, 3) := by decide +kernel
theorem dX7_takerOf_20 : decode cX7_takerOf 20 = .ok (.ifCond .eq 5, 3) := by decide +kernel
theorem dX7_takerOf_23 : decode cX7_takerOf 23 = .ok (.iload_n 3, 1) := by decide +kernel
theorem dX7_takerOf_24 : decode cX7_takerOf 24 = .ok (.ireturn, 1) := by decide +kernel
theorem dX7_takerOf_25 : decode cX7_takerOf 25 = .ok (.iinc 3 1, 3) := by decide +kernel
theorem dX7_takerOf_28 : decode cX7_takerOf 28 = .ok (.goto (-26), 3) := by decide +kernel
theorem dX7_takerOf_31 : decode cX7_takerOf 31 = .ok (.bipush (-9), 2) := by decide +kernel
theorem dX7_takerOf_33 : decode cX7_takerOf 33 = .ok (.ireturn, 1) := by decide +kernel
theorem dX7_advance_0 : decode cX7_advance 0 = .ok (.aload_n 0, 1) := by decide +kernel
theorem dX7_advance_1 : decode cX7_advance 1 = .ok (.dup, 1) := by decide +kernel
theorem dX7_advance_2 : decode cX7_advance 2 = .ok (.getfield 28, 3) := by decide +kernel
theorem dX7_advance_5 : decode cX7_advance 5 = .ok (.iload_n 1, 1) := by decide +kernel
theorem dX7_advance_6 : decode cX7_advance 6 = .ok (.iadd, 1) := by decide +kernel
theorem dX7_advance_7 : decode cX7_advance 7 = .ok (.putfield 28, 3) := by decide +kernel
theorem dX7_advance_10 : decode cX7_advance 10 = .ok (.iconst 0, 1) := by decide +kernel
theorem dX7_advance_11 : decode cX7_advance 11 = .ok (.istore_n 2, 1) := by decide +kernel
theorem dX7_advance_12 : decode cX7_advance 12 = .ok (.iload_n 2, 1) := by decide +kernel
theorem dX7_advance_13 : decode cX7_advance 13 = .ok (.aload_n 0, 1) := by decide +kernel
theorem dX7_advance_14 : decode cX7_advance 14 = .ok (.getfield 24, 3) := by decide +kernel
theorem dX7_advance_17 : decode cX7_advance 17 = .ok (.if_icmp .ge 21, 3) := by decide +kernel
theorem dX7_advance_20 : decode cX7_advance 20 = .ok (.aload_n 0, 1) := by decide +kernel
theorem dX7_advance_21 : decode cX7_advance 21 = .ok (.iload_n 2, 1) := by decide +kernel
theorem dX7_advance_22 : decode cX7_advance 22 = .ok (.invokevirtual 34, 3) := by decide +kernel
theorem dX7_advance_25 : decode cX7_advance 25 = .ok (.aload_n 0, 1) := by decide +kernel
theorem dX7_advance_26 : decode cX7_advance 26 = .ok (.getfield 28, 3) := by decide +kernel
theorem dX7_advance_29 : decode cX7_advance 29 = .ok (.invokevirtual 62, 3) := by decide +kernel
theorem dX7_advance_32 : decode cX7_advance 32 = .ok (.iinc 2 1, 3) := by decide +kernel
theorem dX7_advance_35 : decode cX7_advance 35 = .ok (.goto (-23), 3) := by decide +kernel
theorem dX7_advance_38 : decode cX7_advance 38 = .ok (.return_, 1) := by decide +kernel
theorem dX7_lose_0 : decode cX7_lose 0 = .ok (.aload_n 0, 1) := by decide +kernel
theorem dX7_lose_1 : decode cX7_lose 1 = .ok (.dup, 1) := by decide +kernel
theorem dX7_lose_2 : decode cX7_lose 2 = .ok (.getfield 31, 3) := by decide +kernel
theorem dX7_lose_5 : decode cX7_lose 5 = .ok (.iconst 1, 1) := by decide +kernel
theorem dX7_lose_6 : decode cX7_lose 6 = .ok (.iload_n 1, 1) := by decide +kernel
theorem dX7_lose_7 : decode cX7_lose 7 = .ok (.ishl, 1) := by decide +kernel
theorem dX7_lose_8 : decode cX7_lose 8 = .ok (.ior, 1) := by decide +kernel
theorem dX7_lose_9 : decode cX7_lose 9 = .ok (.putfield 31, 3) := by decide +kernel
theorem dX7_lose_12 : decode cX7_lose 12 = .ok (.iconst 0, 1) := by decide +kernel
theorem dX7_lose_13 : decode cX7_lose 13 = .ok (.istore_n 2, 1) := by decide +kernel
theorem dX7_lose_14 : decode cX7_lose 14 = .ok (.iconst 0, 1) := by decide +kernel
theorem dX7_lose_15 : decode cX7_lose 15 = .ok (.istore_n 3, 1) := by decide +kernel
theorem dX7_lose_16 : decode cX7_lose 16 = .ok (.iload_n 3, 1) := by decide +kernel
theorem dX7_lose_17 : decode cX7_lose 17 = .ok (.aload_n 0, 1) := by decide +kernel
theorem dX7_lose_18 : decode cX7_lose 18 = .ok (.getfield 24, 3) := by decide +kernel
theorem dX7_lose_21 : decode cX7_lose 21 = .ok (.if_icmp .ge 39, 3) := by decide +kernel
theorem dX7_lose_24 : decode cX7_lose 24 = .ok (.aload_n 0, 1) := by decide +kernel
theorem dX7_lose_25 : decode cX7_lose 25 = .ok (.iload_n 3, 1) := by decide +kernel
theorem dX7_lose_26 : decode cX7_lose 26 = .ok (.invokevirtual 34, 3) := by decide +kernel
theorem dX7_lose_29 : decode cX7_lose 29 = .ok (.iload_n 1, 1) := by decide +kernel
theorem dX7_lose_30 : decode cX7_lose 30 = .ok (.aload_n 0, 1) := by decide +kernel
theorem dX7_lose_31 : decode cX7_lose 31 = .ok (.getfield 28, 3) := by decide +kernel
theorem dX7_lose_34 : decode cX7_lose 34 = .ok (.invokevirtual 66, 3) := by decide +kernel
theorem dX7_lose_37 : decode cX7_lose 37 = .ok (.ifCond .eq 17, 3) := by decide +kernel
theorem dX7_lose_40 : decode cX7_lose 40 = .ok (.aload_n 0, 1) := by decide +kernel
theorem dX7_lose_41 : decode cX7_lose 41 = .ok (.iload_n 3, 1) := by decide +kernel
theorem dX7_lose_42 : decode cX7_lose 42 = .ok (.invokevirtual 69, 3) := by decide +kernel
theorem dX7_lose_45 : decode cX7_lose 45 = .ok (.ifCond .eq 9, 3) := by decide +kernel
theorem dX7_lose_48 : decode cX7_lose 48 = .ok (.iload_n 2, 1) := by decide +kernel
theorem dX7_lose_49 : decode cX7_lose 49 = .ok (.iconst 1, 1) := by decide +kernel
theorem dX7_lose_50 : decode cX7_lose 50 = .ok (.iload_n 3, 1) := by decide +kernel
theorem dX7_lose_51 : decode cX7_lose 51 = .ok (.ishl, 1) := by decide +kernel
theorem dX7_lose_52 : decode cX7_lose 52 = .ok (.ior, 1) := by decide +kernel
theorem dX7_lose_53 : decode cX7_lose 53 = .ok (.istore_n 2, 1) := by decide +kernel
theorem dX7_lose_54 : decode cX7_lose 54 = .ok (.iinc 3 1, 3) := by decide +kernel
theorem dX7_lose_57 : decode cX7_lose 57 = .ok (.goto (-41), 3) := by decide +kernel
theorem dX7_lose_60 : decode cX7_lose 60 = .ok (.iload_n 2, 1) := by decide +kernel
theorem dX7_lose_61 : decode cX7_lose 61 = .ok (.ireturn, 1) := by decide +kernel
theorem dX7_regain_0 : decode cX7_regain 0 = .ok (.aload_n 0, 1) := by decide +kernel
theorem dX7_regain_1 : decode cX7_regain 1 = .ok (.dup, 1) := by decide +kernel
theorem dX7_regain_2 : decode cX7_regain 2 = .ok (.getfield 31, 3) := by decide +kernel
theorem dX7_regain_5 : decode cX7_regain 5 = .ok (.iconst 1, 1) := by decide +kernel
theorem dX7_regain_6 : decode cX7_regain 6 = .ok (.iload_n 1, 1) := by decide +kernel
theorem dX7_regain_7 : decode cX7_regain 7 = .ok (.ishl, 1) := by decide +kernel
theorem dX7_regain_8 : decode cX7_regain 8 = .ok (.iconst (-1), 1) := by decide +kernel
theorem dX7_regain_9 : decode cX7_regain 9 = .ok (.ixor, 1) := by decide +kernel
theorem dX7_regain_10 : decode cX7_regain 10 = .ok (.iand, 1) := by decide +kernel
theorem dX7_regain_11 : decode cX7_regain 11 = .ok (.putfield 31, 3) := by decide +kernel
theorem dX7_regain_14 : decode cX7_regain 14 = .ok (.aload_n 0, 1) := by decide +kernel
theorem dX7_regain_15 : decode cX7_regain 15 = .ok (.iconst 0, 1) := by decide +kernel
theorem dX7_regain_16 : decode cX7_regain 16 = .ok (.invokevirtual 46, 3) := by decide +kernel
theorem dX7_regain_19 : decode cX7_regain 19 = .ok (.ireturn, 1) := by decide +kernel
theorem dX2_forgetAll_0 : decode cX2_forgetAll 0 = .ok (.aload_n 0, 1) := by decide +kernel
theorem dX2_forgetAll_1 : decode cX2_forgetAll 1 = .ok (.iconst 0, 1) := by decide +kernel
theorem dX2_forgetAll_2 : decode cX2_forgetAll 2 = .ok (.putfield 28, 3) := by decide +kernel
theorem dX2_forgetAll_5 : decode cX2_forgetAll 5 = .ok (.return_, 1) := by decide +kernel
theorem dX2_remember_0 : decode cX2_remember 0 = .ok (.aload_n 0, 1) := by decide +kernel
theorem dX2_remember_1 : decode cX2_remember 1 = .ok (.aload_n 0, 1) := by decide +kernel
theorem dX2_remember_2 : decode cX2_remember 2 = .ok (.getfield 24, 3) := by decide +kernel
theorem dX2_remember_5 : decode cX2_remember 5 = .ok (.invokevirtual 31, 3) := by decide +kernel
theorem dX2_remember_8 : decode cX2_remember 8 = .ok (.aload_n 1, 1) := by decide +kernel
theorem dX2_remember_9 : decode cX2_remember 9 = .ok (.invokevirtual 35, 3) := by decide +kernel
theorem dX2_remember_12 : decode cX2_remember 12 = .ok (.aload_n 0, 1) := by decide +kernel
theorem dX2_remember_13 : decode cX2_remember 13 = .ok (.aload_n 0, 1) := by decide +kernel
theorem dX2_remember_14 : decode cX2_remember 14 = .ok (.getfield 24, 3) := by decide +kernel
theorem dX2_remember_17 : decode cX2_remember 17 = .ok (.iconst 1, 1) := by decide +kernel
theorem dX2_remember_18 : decode cX2_remember 18 = .ok (.iadd, 1) := by decide +kernel
theorem dX2_remember_19 : decode cX2_remember 19 = .ok (.bipush 8, 2) := by decide +kernel
theorem dX2_remember_21 : decode cX2_remember 21 = .ok (.irem, 1) := by decide +kernel
theorem dX2_remember_22 : decode cX2_remember 22 = .ok (.putfield 24, 3) := by decide +kernel
theorem dX2_remember_25 : decode cX2_remember 25 = .ok (.aload_n 0, 1) := by decide +kernel
theorem dX2_remember_26 : decode cX2_remember 26 = .ok (.aload_n 0, 1) := by decide +kernel
theorem dX2_remember_27 : decode cX2_remember 27 = .ok (.getfield 28, 3) := by decide +kernel
theorem dX2_remember_30 : decode cX2_remember 30 = .ok (.iconst 1, 1) := by decide +kernel
theorem dX2_remember_31 : decode cX2_remember 31 = .ok (.iadd, 1) := by decide +kernel
theorem dX2_remember_32 : decode cX2_remember 32 = .ok (.bipush 8, 2) := by decide +kernel
theorem dX2_remember_34 : decode cX2_remember 34 = .ok (.invokestatic 39, 3) := by decide +kernel
theorem dX2_remember_37 : decode cX2_remember 37 = .ok (.putfield 28, 3) := by decide +kernel
theorem dX2_remember_40 : decode cX2_remember 40 = .ok (.return_, 1) := by decide +kernel
theorem dX2_takeBack_0 : decode cX2_takeBack 0 = .ok (.aload_n 0, 1) := by decide +kernel
theorem dX2_takeBack_1 : decode cX2_takeBack 1 = .ok (.aload_n 0, 1) := by decide +kernel
theorem dX2_takeBack_2 : decode cX2_takeBack 2 = .ok (.getfield 24, 3) := by decide +kernel
theorem dX2_takeBack_5 : decode cX2_takeBack 5 = .ok (.bipush 8, 2) := by decide +kernel
theorem dX2_takeBack_7 : decode cX2_takeBack 7 = .ok (.iadd, 1) := by decide +kernel
theorem dX2_takeBack_8 : decode cX2_takeBack 8 = .ok (.iconst 1, 1) := by decide +kernel
theorem dX2_takeBack_9 : decode cX2_takeBack 9 = .ok (.isub, 1) := by decide +kernel
theorem dX2_takeBack_10 : decode cX2_takeBack 10 = .ok (.bipush 8, 2) := by decide +kernel
theorem dX2_takeBack_12 : decode cX2_takeBack 12 = .ok (.irem, 1) := by decide +kernel
theorem dX2_takeBack_13 : decode cX2_takeBack 13 = .ok (.putfield 24, 3) := by decide +kernel
theorem dX2_takeBack_16 : decode cX2_takeBack 16 = .ok (.aload_n 1, 1) := by decide +kernel
theorem dX2_takeBack_17 : decode cX2_takeBack 17 = .ok (.aload_n 0, 1) := by decide +kernel
theorem dX2_takeBack_18 : decode cX2_takeBack 18 = .ok (.aload_n 0, 1) := by decide +kernel
theorem dX2_takeBack_19 : decode cX2_takeBack 19 = .ok (.getfield 24, 3) := by decide +kernel
theorem dX2_takeBack_22 : decode cX2_takeBack 22 = .ok (.invokevirtual 31, 3) := by decide +kernel
theorem dX2_takeBack_25 : decode cX2_takeBack 25 = .ok (.invokevirtual 35, 3) := by decide +kernel
theorem dX2_takeBack_28 : decode cX2_takeBack 28 = .ok (.aload_n 0, 1) := by decide +kernel
theorem dX2_takeBack_29 : decode cX2_takeBack 29 = .ok (.dup, 1) := by decide +kernel
theorem dX2_takeBack_30 : decode cX2_takeBack 30 = .ok (.getfield 28, 3) := by decide +kernel
theorem dX2_takeBack_33 : decode cX2_takeBack 33 = .ok (.iconst 1, 1) := by decide +kernel
theorem dX2_takeBack_34 : decode cX2_takeBack 34 = .ok (.isub, 1) := by decide +kernel
theorem dX2_takeBack_35 : decode cX2_takeBack 35 = .ok (.putfield 28, 3) := by decide +kernel
theorem dX2_takeBack_38 : decode cX2_takeBack 38 = .ok (.return_, 1) := by decide +kernel
theorem dX2_slotAt_0 : decode cX2_slotAt 0 = .ok (.iload_n 1, 1) := by decide +kernel
theorem dX2_slotAt_1 : decode cX2_slotAt 1 = .ok (.ifCond .lt 12, 3) := by decide +kernel
theorem dX2_slotAt_4 : decode cX2_slotAt 4 = .ok (.iload_n 1, 1) := by decide +kernel
theorem dX2_slotAt_5 : decode cX2_slotAt 5 = .ok (.aload_n 0, 1) := by decide +kernel
theorem dX2_slotAt_6 : decode cX2_slotAt 6 = .ok (.getfield 20, 3) := by decide +kernel
theorem dX2_slotAt_9 : decode cX2_slotAt 9 = .ok (.arraylength, 1) := by decide +kernel
theorem dX2_slotAt_10 : decode cX2_slotAt 10 = .ok (.if_icmp .lt 8, 3) := by decide +kernel
theorem dX2_slotAt_13 : decode cX2_slotAt 13 = .ok (.aload_n 0, 1) := by decide +kernel
theorem dX2_slotAt_14 : decode cX2_slotAt 14 = .ok (.getfield 14, 3) := by decide +kernel
theorem dX2_slotAt_17 : decode cX2_slotAt 17 = .ok (.areturn, 1) := by decide +kernel
theorem dX2_slotAt_18 : decode cX2_slotAt 18 = .ok (.aload_n 0, 1) := by decide +kernel
theorem dX2_slotAt_19 : decode cX2_slotAt 19 = .ok (.getfield 20, 3) := by decide +kernel
theorem dX2_slotAt_22 : decode cX2_slotAt 22 = .ok (.iload_n 1, 1) := by decide +kernel
theorem dX2_slotAt_23 : decode cX2_slotAt 23 = .ok (.aaload, 1) := by decide +kernel
theorem dX2_slotAt_24 : decode cX2_slotAt 24 = .ok (.astore_n 2, 1) := by decide +kernel
theorem dX2_slotAt_25 : decode cX2_slotAt 25 = .ok (.aload_n 2, 1) := by decide +kernel
theorem dX2_slotAt_26 : decode cX2_slotAt 26 = .ok (.ifnonnull 10, 3) := by decide +kernel
theorem dX2_slotAt_29 : decode cX2_slotAt 29 = .ok (.aload_n 0, 1) := by decide +kernel
theorem dX2_slotAt_30 : decode cX2_slotAt 30 = .ok (.getfield 14, 3) := by decide +kernel
theorem dX2_slotAt_33 : decode cX2_slotAt 33 = .ok (.goto 4, 3) := by decide +kernel
theorem dX2_slotAt_36 : decode cX2_slotAt 36 = .ok (.aload_n 2, 1) := by decide +kernel
theorem dX2_slotAt_37 : decode cX2_slotAt 37 = .ok (.areturn, 1) := by decide +kernel
theorem m_X3_reset {G : GT} (hg : gx G = FX) {n : Nat} {μ : Mem} {Q : Nat → Mem → Prop} {v0 : Int} (o0 : St v0 3 4) (h : (Q n (up (up μ v0 2 0) v0 3 2))) : CV G Y_X3_reset [.inr v0] n μ Q := by
  refine e_V (by decide) (Nat.le_of_ble_eq_true rfl) ?_
  show Wa G Y_X3_reset (ZV G Y_X3_reset Q) 0 0 n μ 0 [(0, .inr v0)] []
  refine a_aload_n (k := 0) dX3_reset_0 rfl rfl ?_
  refine a_iconst dX3_reset_1 (by decide) ?_
  refine p_X3_24 rfl dX3_reset_2 (St_ho hg o0) (FX_put hg o0 rfl) ?_
  refine a_aload_n (k := 0) dX3_reset_5 rfl rfl ?_
  refine a_iconst dX3_reset_6 (by decide) ?_
  refine p_X3_28 rfl dX3_reset_7 (St_ho hg o0) (FX_put hg o0 rfl) ?_
  exact a_ret dX3_reset_10 rfl (Nat.le_of_ble_eq_true rfl) (Nat.le_of_ble_eq_true rfl) h
theorem m_X3_hasNode {G : GT} (hg : gx G = FX) {n : Nat} {μ : Mem} {Q : Int → Nat → Mem → Prop} {v0 v1 : Int} (o0 : St v0 3 4) (h : ((v1 < 0 → (Q 0 n μ)) ∧ (¬ (v1 < 0) → (((μ v0 3) ≤ v1 → (Q 0 n μ)) ∧ (¬ ((μ v0 3) ≤ v1) → (Q 1 n μ)))))) : CI G Y_X3_hasNode [.inr v0, .inl v1] n μ Q := by
  refine e_I (by decide) (Nat.le_of_ble_eq_true rfl) ?_
  show Wa G Y_X3_hasNode (ZI G Y_X3_hasNode Q) 0 0 n μ 0 [(0, .inr v0), (1, .inl v1)] []
  refine a_iload_n (k := 1) dX3_hasNode_0 rfl rfl ?_
  refine a_if_lt (tgt := 16) dX3_hasNode_1 (by decide) (fun c1 => ?_) (fun c1 => ?_)
  · replace h := h.1 c1
    refine a_iconst dX3_hasNode_16 (by decide) ?_
    exact a_zret dX3_hasNode_17 rfl (Nat.le_of_ble_eq_true rfl) (Nat.le_of_ble_eq_true rfl) (by decide) h
  · replace h := h.2 c1
    refine a_iload_n (k := 1) dX3_hasNode_4 rfl rfl ?_
    refine a_aload_n (k := 0) dX3_hasNode_5 rfl rfl ?_
    refine g_X3_28 rfl dX3_hasNode_6 (St_ho hg o0) ?_
    refine a_icmp_ge (tgt := 16) dX3_hasNode_9 (by decide) (fun c2 => ?_) (fun c2 => ?_)
    · replace h := h.1 c2
      refine a_iconst dX3_hasNode_16 (by decide) ?_
      exact a_zret dX3_hasNode_17 rfl (Nat.le_of_ble_eq_true rfl) (Nat.le_of_ble_eq_true rfl) (by decide) h
    · replace h := h.2 c2
      refine a_iconst dX3_hasNode_12 (by decide) ?_
      refine a_goto (tgt := 17) dX3_hasNode_13 (by decide) ?_
      exact a_zret dX3_hasNode_17 rfl (Nat.le_of_ble_eq_true rfl) (Nat.le_of_ble_eq_true rfl) (by decide) h
theorem m_X3_hasContact {G : GT} (hg : gx G = FX) {n : Nat} {μ : Mem} {Q : Int → Nat → Mem → Prop} {v0 v1 : Int} (o0 : St v0 3 4) (h : ((v1 < 0 → (Q 0 n μ)) ∧ (¬ (v1 < 0) → (((μ v0 2) ≤ v1 → (Q 0 n μ)) ∧ (¬ ((μ v0 2) ≤ v1) → (Q 1 n μ)))))) : CI G Y_X3_hasContact [.inr v0, .inl v1] n μ Q := by
  refine e_I (by decide) (Nat.le_of_ble_eq_true rfl) ?_
  show Wa G Y_X3_hasContact (ZI G Y_X3_hasContact Q) 0 0 n μ 0 [(0, .inr v0), (1, .inl v1)] []
  refine a_iload_n (k := 1) dX3_hasContact_0 rfl rfl ?_
  refine a_if_lt (tgt := 16) dX3_hasContact_1 (by decide) (fun c1 => ?_) (fun c1 => ?_)
  · replace h := h.1 c1
    refine a_iconst dX3_hasContact_16 (by decide) ?_
    exact a_zret dX3_hasContact_17 rfl (Nat.le_of_ble_eq_true rfl) (Nat.le_of_ble_eq_true rfl) (by decide) h
  · replace h := h.2 c1
    refine a_iload_n (k := 1) dX3_hasContact_4 rfl rfl ?_
    refine a_aload_n (k := 0) dX3_hasContact_5 rfl rfl ?_
    refine g_X3_24 rfl dX3_hasContact_6 (St_ho hg o0) ?_
    refine a_icmp_ge (tgt := 16) dX3_hasContact_9 (by decide) (fun c2 => ?_) (fun c2 => ?_)
    · replace h := h.1 c2
      refine a_iconst dX3_hasContact_16 (by decide) ?_
      exact a_zret dX3_hasContact_17 rfl (Nat.le_of_ble_eq_true rfl) (Nat.le_of_ble_eq_true rfl) (by decide) h
    · replace h := h.2 c2
      refine a_iconst dX3_hasContact_12 (by decide) ?_
      refine a_goto (tgt := 17) dX3_hasContact_13 (by decide) ?_
      exact a_zret dX3_hasContact_17 rfl (Nat.le_of_ble_eq_true rfl) (Nat.le_of_ble_eq_true rfl) (by decide) h
theorem m_X3_hasRoom {G : GT} (hg : gx G = FX) {n : Nat} {μ : Mem} {Q : Int → Nat → Mem → Prop} {v0 : Int} (o0 : St v0 3 4) (h : ((8 ≤ (μ v0 2) → (Q 0 n μ)) ∧ (¬ (8 ≤ (μ v0 2)) → (Q 1 n μ)))) : CI G Y_X3_hasRoom [.inr v0] n μ Q := by
  refine e_I (by decide) (Nat.le_of_ble_eq_true rfl) ?_
  show Wa G Y_X3_hasRoom (ZI G Y_X3_hasRoom Q) 0 0 n μ 0 [(0, .inr v0)] []
  refine a_aload_n (k := 0) dX3_hasRoom_0 rfl rfl ?_
  refine g_X3_24 rfl dX3_hasRoom_1 (St_ho hg o0) ?_
  refine a_aload_n (k := 0) dX3_hasRoom_4 rfl rfl ?_
  refine gs_X3_20 rfl dX3_hasRoom_5 hg o0 ?_
  refine a_alen (N := 8) (t0 := 3) dX3_hasRoom_8 (by decide) (by decide) rfl (St_ho hg (st_3_2 o0)) ?_
  refine a_icmp_ge (tgt := 16) dX3_hasRoom_9 (by decide) (fun c1 => ?_) (fun c1 => ?_)
  · replace h := h.1 c1
    refine a_iconst dX3_hasRoom_16 (by decide) ?_
    exact a_zret dX3_hasRoom_17 rfl (Nat.le_of_ble_eq_true rfl) (Nat.le_of_ble_eq_true rfl) (by decide) h
  · replace h := h.2 c1
    refine a_iconst dX3_hasRoom_12 (by decide) ?_
    refine a_goto (tgt := 17) dX3_hasRoom_13 (by decide) ?_
    exact a_zret dX3_hasRoom_17 rfl (Nat.le_of_ble_eq_true rfl) (Nat.le_of_ble_eq_true rfl) (by decide) h
theorem m_X3_addContact {G : GT} (hg : gx G = FX) {n : Nat} {μ : Mem} {Q : Nat → Mem → Prop} {v0 v1 : Int} (o0 : St v0 3 4) (h : (((μ v0 2) < 0 → (Q n μ)) ∧ (¬ ((μ v0 2) < 0) → ((8 ≤ (μ v0 2) → (Q n μ)) ∧ (¬ (8 ≤ (μ v0 2)) → (((0 : Int) ≤ μ v0 2 ∧ μ v0 2 < 8) ∧ ((Co n v1) ∧ ((inR (((up μ (v0 + 2) (μ v0 2) v1) v0 2) + 1)) ∧ (Q n (up (up μ (v0 + 2) (μ v0 2) v1) v0 2 (((up μ (v0 + 2) (μ v0 2) v1) v0 2) + 1))))))))))) : CV G Y_X3_addContact [.inr v0, .inr v1] n μ Q := by
  refine e_V (by decide) (Nat.le_of_ble_eq_true rfl) ?_
  show Wa G Y_X3_addContact (ZV G Y_X3_addContact Q) 0 0 n μ 0 [(0, .inr v0), (1, .inr v1)] []
  refine a_aload_n (k := 0) dX3_addContact_0 rfl rfl ?_
  refine g_X3_24 rfl dX3_addContact_1 (St_ho hg o0) ?_
  refine a_if_lt (tgt := 39) dX3_addContact_4 (by decide) (fun c1 => ?_) (fun c1 => ?_)
  · replace h := h.1 c1
    exact a_ret dX3_addContact_39 rfl (Nat.le_of_ble_eq_true rfl) (Nat.le_of_ble_eq_true rfl) h
  · replace h := h.2 c1
    refine a_aload_n (k := 0) dX3_addContact_7 rfl rfl ?_
    refine g_X3_24 rfl dX3_addContact_8 (St_ho hg o0) ?_
    refine a_aload_n (k := 0) dX3_addContact_11 rfl rfl ?_
    refine gs_X3_20 rfl dX3_addContact_12 hg o0 ?_
    refine a_alen (N := 8) (t0 := 3) dX3_addContact_15 (by decide) (by decide) rfl (St_ho hg (st_3_2 o0)) ?_
    refine a_icmp_ge (tgt := 39) dX3_addContact_16 (by decide) (fun c2 => ?_) (fun c2 => ?_)
    · replace h := h.1 c2
      exact a_ret dX3_addContact_39 rfl (Nat.le_of_ble_eq_true rfl) (Nat.le_of_ble_eq_true rfl) h
    · replace h := h.2 c2
      refine a_aload_n (k := 0) dX3_addContact_19 rfl rfl ?_
      refine gs_X3_20 rfl dX3_addContact_20 hg o0 ?_
      refine a_aload_n (k := 0) dX3_addContact_23 rfl rfl ?_
      refine g_X3_24 rfl dX3_addContact_24 (St_ho hg o0) ?_
      refine a_aload_n (k := 1) dX3_addContact_27 rfl rfl ?_
      obtain ⟨q3, h⟩ := h
      obtain ⟨q4, h⟩ := h
      refine a_aastore (N := 8) (kd := 23) (t0 := 3) dX3_addContact_28 (by decide) rfl (St_ho hg (st_3_2 o0)) q3.1 q3.2 cf_1 (fun _ => q4) (FX_put hg (st_3_2 o0) rfl) ?_
      refine a_aload_n (k := 0) dX3_addContact_29 rfl rfl ?_
      refine a_dup dX3_addContact_30 ?_
      refine g_X3_24 rfl dX3_addContact_31 (St_ho hg o0) ?_
      refine a_iconst dX3_addContact_34 (by decide) ?_
      obtain ⟨q5, h⟩ := h
      refine a_iadd dX3_addContact_35 q5 ?_
      refine p_X3_24 rfl dX3_addContact_36 (St_ho hg o0) (FX_put hg o0 rfl) ?_
      exact a_ret dX3_addContact_39 rfl (Nat.le_of_ble_eq_true rfl) (Nat.le_of_ble_eq_true rfl) h
theorem m_X3_contactAt {G : GT} (hg : gx G = FX) {n : Nat} {μ : Mem} {Q : Int → Nat → Mem → Prop} {v0 v1 : Int} (o0 : St v0 3 4) (h : ((v1 < 0 → (((0 : Int) ≤ v0 + 1) ∧ (Q (v0 + 1) n μ))) ∧ (¬ (v1 < 0) → (((μ v0 2) ≤ v1 → (((0 : Int) ≤ v0 + 1) ∧ (Q (v0 + 1) n μ))) ∧ (¬ ((μ v0 2) ≤ v1) → ((v1 < 8 → (((0 : Int) ≤ v1 ∧ v1 < 8) ∧ ((¬ (μ (v0 + 2) v1 < 0) → (((0 : Int) ≤ μ (v0 + 2) v1) ∧ (Q (μ (v0 + 2) v1) n μ))) ∧ (μ (v0 + 2) v1 < 0 → (((0 : Int) ≤ v0 + 1) ∧ (Q (v0 + 1) n μ)))))) ∧ (¬ (v1 < 8) → (((0 : Int) ≤ v0 + 1) ∧ (Q (v0 + 1) n μ))))))))) : CR G Y_X3_contactAt [.inr v0, .inl v1] n μ Q := by
  refine e_R (by decide) (Nat.le_of_ble_eq_true rfl) ?_
  show Wa G Y_X3_contactAt (ZR G Y_X3_contactAt Q) 0 0 n μ 0 [(0, .inr v0), (1, .inl v1)] []
  refine a_iload_n (k := 1) dX3_contactAt_0 rfl rfl ?_
  refine a_if_lt (tgt := 21) dX3_contactAt_1 (by decide) (fun c1 => ?_) (fun c1 => ?_)
  · replace h := h.1 c1
    refine a_aload_n (k := 0) dX3_contactAt_21 rfl rfl ?_
    refine gs_X3_14 rfl dX3_contactAt_22 hg o0 ?_
    obtain ⟨q2, h⟩ := h
    exact a_aret dX3_contactAt_25 rfl (Nat.le_of_ble_eq_true rfl) (Nat.le_of_ble_eq_true rfl) q2 h
  · replace h := h.2 c1
    refine a_iload_n (k := 1) dX3_contactAt_4 rfl rfl ?_
    refine a_aload_n (k := 0) dX3_contactAt_5 rfl rfl ?_
    refine g_X3_24 rfl dX3_contactAt_6 (St_ho hg o0) ?_
    refine a_icmp_ge (tgt := 21) dX3_contactAt_9 (by decide) (fun c3 => ?_) (fun c3 => ?_)
    · replace h := h.1 c3
      refine a_aload_n (k := 0) dX3_contactAt_21 rfl rfl ?_
      refine gs_X3_14 rfl dX3_contactAt_22 hg o0 ?_
      obtain ⟨q4, h⟩ := h
      exact a_aret dX3_contactAt_25 rfl (Nat.le_of_ble_eq_true rfl) (Nat.le_of_ble_eq_true rfl) q4 h
    · replace h := h.2 c3
      refine a_iload_n (k := 1) dX3_contactAt_12 rfl rfl ?_
      refine a_aload_n (k := 0) dX3_contactAt_13 rfl rfl ?_
      refine gs_X3_20 rfl dX3_contactAt_14 hg o0 ?_
      refine a_alen (N := 8) (t0 := 3) dX3_contactAt_17 (by decide) (by decide) rfl (St_ho hg (st_3_2 o0)) ?_
      refine a_icmp_lt (tgt := 26) dX3_contactAt_18 (by decide) (fun c5 => ?_) (fun c5 => ?_)
      · replace h := h.1 c5
        refine a_aload_n (k := 0) dX3_contactAt_26 rfl rfl ?_
        refine gs_X3_20 rfl dX3_contactAt_27 hg o0 ?_
        refine a_iload_n (k := 1) dX3_contactAt_30 rfl rfl ?_
        obtain ⟨q6, h⟩ := h
        refine a_aaload (N := 8) (kd := 23) (t0 := 3) dX3_contactAt_31 (by decide) rfl (St_ho hg (st_3_2 o0)) q6.1 q6.2 ?_
        refine b_astore_n (L' := [(0, .inr v0), (1, .inl v1), (2, .inr (μ (v0 + 2) v1))]) [1, 2, 0] dX3_contactAt_32 rfl (by decide) rfl ?_
        refine a_aload_n (k := 2) dX3_contactAt_33 rfl rfl ?_
        refine a_ifnonnull (tgt := 44) dX3_contactAt_34 (by decide) (fun c7 => ?_) (fun c7 => ?_)
        · replace h := h.1 c7
          refine a_aload_n (k := 2) dX3_contactAt_44 rfl rfl ?_
          obtain ⟨q8, h⟩ := h
          exact a_aret dX3_contactAt_45 rfl (Nat.le_of_ble_eq_true rfl) (Nat.le_of_ble_eq_true rfl) q8 h
        · replace h := h.2 c7
          refine a_aload_n (k := 0) dX3_contactAt_37 rfl rfl ?_
          refine gs_X3_14 rfl dX3_contactAt_38 hg o0 ?_
          refine a_goto (tgt := 45) dX3_contactAt_41 (by decide) ?_
          obtain ⟨q9, h⟩ := h
          exact a_aret dX3_contactAt_45 rfl (Nat.le_of_ble_eq_true rfl) (Nat.le_of_ble_eq_true rfl) q9 h
      · replace h := h.2 c5
        refine a_aload_n (k := 0) dX3_contactAt_21 rfl rfl ?_
        refine gs_X3_14 rfl dX3_contactAt_22 hg o0 ?_
        obtain ⟨q10, h⟩ := h
        exact a_aret dX3_contactAt_25 rfl (Nat.le_of_ble_eq_true rfl) (Nat.le_of_ble_eq_true rfl) q10 h
abbrev B_X3_copyFrom_15 (G : GT) (Q : Nat → Mem → Prop) (n : Nat) (μ : Mem) (v0 : Int) (v1 : Int) (v2 : Int) : Prop := Wa G Y_X3_copyFrom (ZV G Y_X3_copyFrom Q) 0 0 n μ 15 [(0, .inr v0), (1, .inr v1), (2, .inl v2)] []
theorem m_X3_copyFrom {G : GT} (hg : gx G = FX) {n : Nat} {μ : Mem} {Q : Nat → Mem → Prop} {v0 v1 : Int} (o0 : St v0 3 4) (o1 : St v1 3 4) (h : (B_X3_copyFrom_15 G Q n (up (up μ v0 3 (μ v1 3)) v0 2 0) v0 v1 0)) : CV G Y_X3_copyFrom [.inr v0, .inr v1] n μ Q := by
  refine e_V (by decide) (Nat.le_of_ble_eq_true rfl) ?_
  show Wa G Y_X3_copyFrom (ZV G Y_X3_copyFrom Q) 0 0 n μ 0 [(0, .inr v0), (1, .inr v1)] []
  refine a_aload_n (k := 0) dX3_copyFrom_0 rfl rfl ?_
  refine a_aload_n (k := 1) dX3_copyFrom_1 rfl rfl ?_
  refine g_X3_28 rfl dX3_copyFrom_2 (St_ho hg o1) ?_
  refine p_X3_28 rfl dX3_copyFrom_5 (St_ho hg o0) (FX_put hg o0 rfl) ?_
  refine a_aload_n (k := 0) dX3_copyFrom_8 rfl rfl ?_
  refine a_iconst dX3_copyFrom_9 (by decide) ?_
  refine p_X3_24 rfl dX3_copyFrom_10 (St_ho hg o0) (FX_put hg o0 rfl) ?_
  refine a_iconst dX3_copyFrom_13 (by decide) ?_
  refine b_istore_n (L' := [(0, .inr v0), (1, .inr v1), (2, .inl 0)]) [1, 2, 0] dX3_copyFrom_14 rfl (by decide) rfl ?_
  exact h
theorem b_X3_copyFrom_15 {G : GT} (hg : gx G = FX) {n : Nat} {μ : Mem} {Q : Nat → Mem → Prop} {v0 v1 v2 : Int} (o0 : St v0 3 4) (o1 : St v1 3 4) (h : (((μ v1 2) ≤ v2 → (Q n μ)) ∧ (¬ ((μ v1 2) ≤ v2) → (CR G Y_X3_contactAt [.inr v1, .inl v2] n μ (fun (x2 : Int) (n3 : Nat) (μ4 : Mem) => (CV G Y_X3_addContact [.inr v0, .inr x2] n3 μ4 (fun (n6 : Nat) (μ7 : Mem) => ((inR (v2 + 1)) ∧ (B_X3_copyFrom_15 G Q n6 μ7 v0 v1 (v2 + 1)))))))))) : B_X3_copyFrom_15 G Q n μ v0 v1 v2 := by
  show Wa G Y_X3_copyFrom (ZV G Y_X3_copyFrom Q) 0 0 n μ 15 [(0, .inr v0), (1, .inr v1), (2, .inl v2)] []
  refine a_iload_n (k := 2) dX3_copyFrom_15 rfl rfl ?_
  refine a_aload_n (k := 1) dX3_copyFrom_16 rfl rfl ?_
  refine g_X3_24 rfl dX3_copyFrom_17 (St_ho hg o1) ?_
  refine a_icmp_ge (tgt := 38) dX3_copyFrom_20 (by decide) (fun c1 => ?_) (fun c1 => ?_)
  · replace h := h.1 c1
    exact a_ret dX3_copyFrom_38 rfl (Nat.le_of_ble_eq_true rfl) (Nat.le_of_ble_eq_true rfl) h
  · replace h := h.2 c1
    refine a_aload_n (k := 0) dX3_copyFrom_23 rfl rfl ?_
    refine a_aload_n (k := 1) dX3_copyFrom_24 rfl rfl ?_
    refine a_iload_n (k := 2) dX3_copyFrom_25 rfl rfl ?_
    refine k_X3_31 rfl dX3_copyFrom_26 (Nat.le_of_ble_eq_true rfl) rfl (Nat.le_of_ble_eq_true rfl) (Nat.le_of_ble_eq_true rfl) (St_ho hg o1) h (fun x2 n3 μ4 _ h => ?_)
    refine k_X3_35 rfl dX3_copyFrom_29 (Nat.le_of_ble_eq_true rfl) rfl (Nat.le_of_ble_eq_true rfl) (Nat.le_of_ble_eq_true rfl) (St_ho hg o0) h (fun n6 μ7 h => ?_)
    obtain ⟨q8, h⟩ := h
    refine b_iinc (L' := [(0, .inr v0), (1, .inr v1), (2, .inl (v2 + 1))]) (k := 2) [1, 2, 0] dX3_copyFrom_32 rfl q8 (by decide) rfl ?_
    refine a_goto (tgt := 15) dX3_copyFrom_35 (by decide) ?_
    exact h
abbrev B_X4_readPlan_23 (G : GT) (Q : Int → Nat → Mem → Prop) (c0 s0 : Nat) (n : Nat) (μ : Mem) (v1 : Int) : Prop := Wa G Y_X4_readPlan (ZI G Y_X4_readPlan Q) c0 s0 n μ 23 [(0, .inr 3), (1, .inl v1)] []
abbrev B_X4_readPlan_62 (G : GT) (Q : Int → Nat → Mem → Prop) (c0 s0 : Nat) (n : Nat) (μ : Mem) (v1 : Int) (u0 : Int) (u1 : Int) : Prop := Wa G Y_X4_readPlan (ZI G Y_X4_readPlan Q) c0 s0 n μ 62 [(0, .inr 3), (1, .inl v1)] [.inl u0, .inr u1]
abbrev B_X4_readPlan_75 (G : GT) (Q : Int → Nat → Mem → Prop) (c0 s0 : Nat) (n : Nat) (μ : Mem) (v1 : Int) : Prop := Wa G Y_X4_readPlan (ZI G Y_X4_readPlan Q) c0 s0 n μ 75 [(0, .inr 3), (1, .inl v1)] []
theorem m_X4_readPlan {G : GT} (hg : gx G = FX) {n : Nat} {μ : Mem} {Q : Int → Nat → Mem → Prop}  (h : ((0 ≤ 150 ∧ 0 ≤ 900) ∧ (CV G Y_X3_reset [.inr 4] n μ (fun (n2 : Nat) (μ3 : Mem) => ((0 ≤ 150 ∧ 0 ≤ 900) ∧ (CV G Y_X4_skipBlanks [.inr 3] n2 (up (up μ3 3 2 0) 3 3 (-1)) (fun (n5 : Nat) (μ6 : Mem) => (B_X4_readPlan_23 G Q 0 0 n5 μ6 0)))))))) : CI G Y_X4_readPlan [.inr 3] n μ Q := by
  refine e_I (by decide) (Nat.le_of_ble_eq_true rfl) ?_
  show Wa G Y_X4_readPlan (ZI G Y_X4_readPlan Q) 0 0 n μ 0 [(0, .inr 3)] []
  refine a_aload_n (k := 0) dX4_readPlan_0 rfl rfl ?_
  refine gs_X4_18 rfl dX4_readPlan_1 hg St_3 ?_
  obtain ⟨q8, h⟩ := h
  refine k_X4_29 rfl dX4_readPlan_4 (Nat.le_of_ble_eq_true rfl) rfl q8.1 q8.2 (St_ho hg St_4) h (fun n2 μ3 h => ?_)
  refine a_aload_n (k := 0) dX4_readPlan_7 rfl rfl ?_
  refine a_iconst dX4_readPlan_8 (by decide) ?_
  refine p_X4_22 rfl dX4_readPlan_9 (St_ho hg St_3) (FX_put hg St_3 rfl) ?_
  refine a_aload_n (k := 0) dX4_readPlan_12 rfl rfl ?_
  refine a_iconst dX4_readPlan_13 (by decide) ?_
  refine p_X4_26 rfl dX4_readPlan_14 (St_ho hg St_3) (FX_put hg St_3 rfl) ?_
  refine a_iconst dX4_readPlan_17 (by decide) ?_
  refine b_istore_n (L' := [(0, .inr 3), (1, .inl 0)]) [1, 0] dX4_readPlan_18 rfl (by decide) rfl ?_
  refine a_aload_n (k := 0) dX4_readPlan_19 rfl rfl ?_
  obtain ⟨q7, h⟩ := h
  refine k_X4_32 rfl dX4_readPlan_20 (Nat.le_of_ble_eq_true rfl) rfl q7.1 q7.2 (St_ho hg St_3) h (fun n5 μ6 h => ?_)
  exact h
theorem b_X4_readPlan_23 {G : GT} (hg : gx G = FX) {c0 s0 : Nat} {n : Nat} {μ : Mem} {Q : Int → Nat → Mem → Prop} {v1 : Int}  (h : ((150 ≤ v1 → (B_X4_readPlan_75 G Q c0 s0 n μ v1)) ∧ (¬ (150 ≤ v1) → (((μ 1 1) ≤ (μ 3 2) → (B_X4_readPlan_75 G Q c0 s0 n μ v1)) ∧ (¬ ((μ 1 1) ≤ (μ 3 2)) → ((¬ ((μ 3 3) = (-1)) → (B_X4_readPlan_75 G Q c0 s0 n μ v1)) ∧ ((μ 3 3) = (-1) → ((¬ (v1 = 0) → (B_X4_readPlan_62 G Q c0 s0 n μ v1 0 3)) ∧ (v1 = 0 → (B_X4_readPlan_62 G Q c0 s0 n μ v1 1 3)))))))))) : B_X4_readPlan_23 G Q c0 s0 n μ v1 := by
  show Wa G Y_X4_readPlan (ZI G Y_X4_readPlan Q) c0 s0 n μ 23 [(0, .inr 3), (1, .inl v1)] []
  refine a_iload_n (k := 1) dX4_readPlan_23 rfl rfl ?_
  refine a_sipush dX4_readPlan_24 (by decide) (by decide) ?_
  refine a_icmp_ge (tgt := 75) dX4_readPlan_27 (by decide) (fun c1 => ?_) (fun c1 => ?_)
  · replace h := h.1 c1
    exact h
  · replace h := h.2 c1
    refine a_aload_n (k := 0) dX4_readPlan_30 rfl rfl ?_
    refine g_X4_22 rfl dX4_readPlan_31 (St_ho hg St_3) ?_
    refine a_aload_n (k := 0) dX4_readPlan_34 rfl rfl ?_
    refine gs_X4_9 rfl dX4_readPlan_35 hg St_3 ?_
    refine g_X4_35 rfl dX4_readPlan_38 (St_ho hg St_1) ?_
    refine a_icmp_ge (tgt := 75) dX4_readPlan_41 (by decide) (fun c2 => ?_) (fun c2 => ?_)
    · replace h := h.1 c2
      exact h
    · replace h := h.2 c2
      refine a_aload_n (k := 0) dX4_readPlan_44 rfl rfl ?_
      refine g_X4_26 rfl dX4_readPlan_45 (St_ho hg St_3) ?_
      refine a_iconst dX4_readPlan_48 (by decide) ?_
      refine a_icmp_ne (tgt := 75) dX4_readPlan_49 (by decide) (fun c3 => ?_) (fun c3 => ?_)
      · replace h := h.1 c3
        exact h
      · replace h := h.2 c3
        refine a_aload_n (k := 0) dX4_readPlan_52 rfl rfl ?_
        refine a_iload_n (k := 1) dX4_readPlan_53 rfl rfl ?_
        refine a_if_ne (tgt := 61) dX4_readPlan_54 (by decide) (fun c4 => ?_) (fun c4 => ?_)
        · replace h := h.1 c4
          refine a_iconst dX4_readPlan_61 (by decide) ?_
          exact h
        · replace h := h.2 c4
          refine a_iconst dX4_readPlan_57 (by decide) ?_
          refine a_goto (tgt := 62) dX4_readPlan_58 (by decide) ?_
          exact h
theorem b_X4_readPlan_62 {G : GT} (hg : gx G = FX) {c0 s0 : Nat} {n : Nat} {μ : Mem} {Q : Int → Nat → Mem → Prop} {v1 u0 u1 : Int} (ou1 : St u1 4 4) (h : ((c0 + 1 ≤ 150 ∧ s0 + 6 ≤ 900) ∧ (CV G Y_X4_readItem [.inr u1, .inl u0] n μ (fun (n2 : Nat) (μ3 : Mem) => ((inR (v1 + 1)) ∧ ((c0 + 1 ≤ 150 ∧ s0 + 6 ≤ 900) ∧ (CV G Y_X4_skipBlanks [.inr 3] n2 μ3 (fun (n6 : Nat) (μ7 : Mem) => (B_X4_readPlan_23 G Q (c0 + 1) (s0 + 6) n6 μ7 (v1 + 1)))))))))) : B_X4_readPlan_62 G Q c0 s0 n μ v1 u0 u1 := by
  show Wa G Y_X4_readPlan (ZI G Y_X4_readPlan Q) c0 s0 n μ 62 [(0, .inr 3), (1, .inl v1)] [.inl u0, .inr u1]
  obtain ⟨q9, h⟩ := h
  refine k_X4_40 rfl dX4_readPlan_62 (Nat.le_of_ble_eq_true rfl) rfl q9.1 q9.2 (St_ho hg ou1) h (fun n2 μ3 h => ?_)
  obtain ⟨q4, h⟩ := h
  refine b_iinc (L' := [(0, .inr 3), (1, .inl (v1 + 1))]) (k := 1) [1, 0] dX4_readPlan_65 rfl q4 (by decide) rfl ?_
  refine a_aload_n (k := 0) dX4_readPlan_68 rfl rfl ?_
  obtain ⟨q8, h⟩ := h
  refine k_X4_32 rfl dX4_readPlan_69 (Nat.le_of_ble_eq_true rfl) rfl q8.1 q8.2 (St_ho hg St_3) h (fun n6 μ7 h => ?_)
  refine a_goto (tgt := 23) dX4_readPlan_72 (by decide) ?_
  exact h
theorem b_X4_readPlan_75 {G : GT} (hg : gx G = FX) {c0 s0 : Nat} {n : Nat} {μ : Mem} {Q : Int → Nat → Mem → Prop} {v1 : Int}  (h : ((¬ ((μ 3 3) = (-1)) → ((inR ((-10) - (μ 3 3))) ∧ ((c0 ≤ 150 ∧ s0 ≤ 900) ∧ (Q ((-10) - (μ 3 3)) n μ)))) ∧ ((μ 3 3) = (-1) → ((c0 ≤ 150 ∧ s0 ≤ 900) ∧ (Q v1 n μ))))) : B_X4_readPlan_75 G Q c0 s0 n μ v1 := by
  show Wa G Y_X4_readPlan (ZI G Y_X4_readPlan Q) c0 s0 n μ 75 [(0, .inr 3), (1, .inl v1)] []
  refine a_aload_n (k := 0) dX4_readPlan_75 rfl rfl ?_
  refine g_X4_26 rfl dX4_readPlan_76 (St_ho hg St_3) ?_
  refine a_iconst dX4_readPlan_79 (by decide) ?_
  refine a_icmp_ne (tgt := 87) dX4_readPlan_80 (by decide) (fun c1 => ?_) (fun c1 => ?_)
  · replace h := h.1 c1
    refine a_bipush dX4_readPlan_87 (by decide) (by decide) ?_
    refine a_aload_n (k := 0) dX4_readPlan_89 rfl rfl ?_
    refine g_X4_26 rfl dX4_readPlan_90 (St_ho hg St_3) ?_
    obtain ⟨q2, h⟩ := h
    refine a_isub dX4_readPlan_93 q2 ?_
    obtain ⟨q3, h⟩ := h
    exact a_iret dX4_readPlan_94 rfl q3.1 q3.2 h
  · replace h := h.2 c1
    refine a_iload_n (k := 1) dX4_readPlan_83 rfl rfl ?_
    refine a_goto (tgt := 94) dX4_readPlan_84 (by decide) ?_
    obtain ⟨q4, h⟩ := h
    exact a_iret dX4_readPlan_94 rfl q4.1 q4.2 h
abbrev B_X4_readItem_39 (G : GT) (Q : Nat → Mem → Prop) (c0 s0 : Nat) (n : Nat) (μ : Mem) (v2 : Int) : Prop := Wa G Y_X4_readItem (ZV G Y_X4_readItem Q) c0 s0 n μ 39 [(0, .inr 3), (2, .inl v2)] []
abbrev B_X4_readItem_72 (G : GT) (Q : Nat → Mem → Prop) (c0 s0 : Nat) (n : Nat) (μ : Mem) : Prop := Wa G Y_X4_readItem (ZV G Y_X4_readItem Q) c0 s0 n μ 72 [(0, .inr 3)] []
theorem m_X4_readItem {G : GT} (hg : gx G = FX) {n : Nat} {μ : Mem} {Q : Nat → Mem → Prop} {v1 : Int}  (h : ((0 ≤ 1 ∧ 0 ≤ 6) ∧ (CI G Y_X9_byteAt [.inr 1, .inl (μ 3 2)] n μ (fun (x1 : Int) (n2 : Nat) (μ3 : Mem) => ((¬ (x1 = 110) → (B_X4_readItem_39 G Q 0 0 n2 μ3 x1)) ∧ (x1 = 110 → ((v1 = 0 → (B_X4_readItem_39 G Q 0 0 n2 μ3 x1)) ∧ (¬ (v1 = 0) → ((inR ((μ3 3 2) + 1)) ∧ ((0 ≤ 1 ∧ 0 ≤ 6) ∧ (CV G Y_X4_readNodes [.inr 3] n2 (up μ3 3 2 ((μ3 3 2) + 1)) (fun (n8 : Nat) (μ9 : Mem) => ((0 ≤ 1 ∧ 0 ≤ 6) ∧ (Q n8 μ9)))))))))))))) : CV G Y_X4_readItem [.inr 3, .inl v1] n μ Q := by
  refine e_V (by decide) (Nat.le_of_ble_eq_true rfl) ?_
  show Wa G Y_X4_readItem (ZV G Y_X4_readItem Q) 0 0 n μ 0 [(0, .inr 3), (1, .inl v1)] []
  refine a_aload_n (k := 0) dX4_readItem_0 rfl rfl ?_
  refine gs_X4_9 rfl dX4_readItem_1 hg St_3 ?_
  refine a_aload_n (k := 0) dX4_readItem_4 rfl rfl ?_
  refine g_X4_22 rfl dX4_readItem_5 (St_ho hg St_3) ?_
  obtain ⟨q12, h⟩ := h
  refine k_X4_44 rfl dX4_readItem_8 (Nat.le_of_ble_eq_true rfl) rfl q12.1 q12.2 (St_ho hg St_1) h (fun x1 n2 μ3 h => ?_)
  refine b_istore_n (L' := [(0, .inr 3), (1, .inl v1), (2, .inl x1)]) [1, 2, 0] dX4_readItem_11 rfl (by decide) rfl ?_
  refine a_iload_n (k := 2) dX4_readItem_12 rfl rfl ?_
  refine a_bipush dX4_readItem_13 (by decide) (by decide) ?_
  refine a_icmp_ne (tgt := 39) dX4_readItem_15 (by decide) (fun c4 => ?_) (fun c4 => ?_)
  · replace h := h.1 c4
    refine a_sub [0, 2] rfl ?_
    exact h
  · replace h := h.2 c4
    refine a_iload_n (k := 1) dX4_readItem_18 rfl rfl ?_
    refine a_if_eq (tgt := 39) dX4_readItem_19 (by decide) (fun c5 => ?_) (fun c5 => ?_)
    · replace h := h.1 c5
      refine a_sub [0, 2] rfl ?_
      exact h
    · replace h := h.2 c5
      refine a_aload_n (k := 0) dX4_readItem_22 rfl rfl ?_
      refine a_dup dX4_readItem_23 ?_
      refine g_X4_22 rfl dX4_readItem_24 (St_ho hg St_3) ?_
      refine a_iconst dX4_readItem_27 (by decide) ?_
      obtain ⟨q6, h⟩ := h
      refine a_iadd dX4_readItem_28 q6 ?_
      refine p_X4_22 rfl dX4_readItem_29 (St_ho hg St_3) (FX_put hg St_3 rfl) ?_
      refine a_aload_n (k := 0) dX4_readItem_32 rfl rfl ?_
      obtain ⟨q11, h⟩ := h
      refine k_X4_48 rfl dX4_readItem_33 (Nat.le_of_ble_eq_true rfl) rfl q11.1 q11.2 (St_ho hg St_3) h (fun n8 μ9 h => ?_)
      refine a_goto (tgt := 80) dX4_readItem_36 (by decide) ?_
      obtain ⟨q10, h⟩ := h
      exact a_ret dX4_readItem_80 rfl q10.1 q10.2 h
theorem b_X4_readItem_39 {G : GT} (hg : gx G = FX) {c0 s0 : Nat} {n : Nat} {μ : Mem} {Q : Nat → Mem → Prop} {v2 : Int}  (h : ((¬ (v2 = 99) → (B_X4_readItem_72 G Q c0 s0 n μ)) ∧ (v2 = 99 → ((c0 ≤ 1 ∧ s0 ≤ 6) ∧ (CI G Y_X3_hasRoom [.inr 4] n μ (fun (x2 : Int) (n3 : Nat) (μ4 : Mem) => ((x2 = 0 → (B_X4_readItem_72 G Q c0 s0 n3 μ4)) ∧ (¬ (x2 = 0) → ((inR ((μ4 3 2) + 1)) ∧ ((c0 + 1 ≤ 1 ∧ s0 + 6 ≤ 6) ∧ (CV G Y_X4_readContact [.inr 3] n3 (up μ4 3 2 ((μ4 3 2) + 1)) (fun (n8 : Nat) (μ9 : Mem) => ((c0 + 1 ≤ 1 ∧ s0 + 6 ≤ 6) ∧ (Q n8 μ9)))))))))))))) : B_X4_readItem_39 G Q c0 s0 n μ v2 := by
  show Wa G Y_X4_readItem (ZV G Y_X4_readItem Q) c0 s0 n μ 39 [(0, .inr 3), (2, .inl v2)] []
  refine a_iload_n (k := 1) dX4_readItem_39 rfl rfl ?_
  refine a_bipush dX4_readItem_40 (by decide) (by decide) ?_
  refine a_icmp_ne (tgt := 72) dX4_readItem_42 (by decide) (fun c1 => ?_) (fun c1 => ?_)
  · replace h := h.1 c1
    refine a_sub [0] rfl ?_
    exact h
  · replace h := h.2 c1
    refine a_aload_n (k := 0) dX4_readItem_45 rfl rfl ?_
    refine gs_X4_18 rfl dX4_readItem_46 hg St_3 ?_
    obtain ⟨q12, h⟩ := h
    refine k_X4_51 rfl dX4_readItem_49 (Nat.le_of_ble_eq_true rfl) rfl q12.1 q12.2 (St_ho hg St_4) h (fun x2 n3 μ4 h => ?_)
    refine a_if_eq (tgt := 72) dX4_readItem_52 (by decide) (fun c5 => ?_) (fun c5 => ?_)
    · replace h := h.1 c5
      refine a_sub [0] rfl ?_
      exact h
    · replace h := h.2 c5
      refine a_aload_n (k := 0) dX4_readItem_55 rfl rfl ?_
      refine a_dup dX4_readItem_56 ?_
      refine g_X4_22 rfl dX4_readItem_57 (St_ho hg St_3) ?_
      refine a_iconst dX4_readItem_60 (by decide) ?_
      obtain ⟨q6, h⟩ := h
      refine a_iadd dX4_readItem_61 q6 ?_
      refine p_X4_22 rfl dX4_readItem_62 (St_ho hg St_3) (FX_put hg St_3 rfl) ?_
      refine a_aload_n (k := 0) dX4_readItem_65 rfl rfl ?_
      obtain ⟨q11, h⟩ := h
      refine k_X4_55 rfl dX4_readItem_66 (Nat.le_of_ble_eq_true rfl) rfl q11.1 q11.2 (St_ho hg St_3) h (fun n8 μ9 h => ?_)
      refine a_goto (tgt := 80) dX4_readItem_69 (by decide) ?_
      obtain ⟨q10, h⟩ := h
      exact a_ret dX4_readItem_80 rfl q10.1 q10.2 h
theorem b_X4_readItem_72 {G : GT} (hg : gx G = FX) {c0 s0 : Nat} {n : Nat} {μ : Mem} {Q : Nat → Mem → Prop}  (h : ((c0 ≤ 1 ∧ s0 ≤ 6) ∧ (CV G Y_X4_blame [.inr 3, .inl (μ 3 2)] n μ (fun (n2 : Nat) (μ3 : Mem) => ((c0 ≤ 1 ∧ s0 ≤ 6) ∧ (Q n2 μ3)))))) : B_X4_readItem_72 G Q c0 s0 n μ := by
  show Wa G Y_X4_readItem (ZV G Y_X4_readItem Q) c0 s0 n μ 72 [(0, .inr 3)] []
  refine a_aload_n (k := 0) dX4_readItem_72 rfl rfl ?_
  refine a_aload_n (k := 0) dX4_readItem_73 rfl rfl ?_
  refine g_X4_22 rfl dX4_readItem_74 (St_ho hg St_3) ?_
  obtain ⟨q5, h⟩ := h
  refine k_X4_58 rfl dX4_readItem_77 (Nat.le_of_ble_eq_true rfl) rfl q5.1 q5.2 (St_ho hg St_3) h (fun n2 μ3 h => ?_)
  obtain ⟨q4, h⟩ := h
  exact a_ret dX4_readItem_80 rfl q4.1 q4.2 h
theorem m_X4_readNodes {G : GT} (hg : gx G = FX) {n : Nat} {μ : Mem} {Q : Nat → Mem → Prop}  (h : (CI G Y_X4_readNumber [.inr 3, .inl 2, .inl 6, .inl (-1)] n μ (fun (x1 : Int) (n2 : Nat) (μ3 : Mem) => (CV G Y_X4_readSemicolon [.inr 3] n2 μ3 (fun (n5 : Nat) (μ6 : Mem) => ((¬ ((μ6 3 3) = (-1)) → (Q n5 μ6)) ∧ ((μ6 3 3) = (-1) → (Q n5 (up μ6 4 3 x1))))))))) : CV G Y_X4_readNodes [.inr 3] n μ Q := by
  refine e_V (by decide) (Nat.le_of_ble_eq_true rfl) ?_
  show Wa G Y_X4_readNodes (ZV G Y_X4_readNodes Q) 0 0 n μ 0 [(0, .inr 3)] []
  refine a_aload_n (k := 0) dX4_readNodes_0 rfl rfl ?_
  refine a_iconst dX4_readNodes_1 (by decide) ?_
  refine a_bipush dX4_readNodes_2 (by decide) (by decide) ?_
  refine a_iconst dX4_readNodes_4 (by decide) ?_
  refine k_X4_62 rfl dX4_readNodes_5 (Nat.le_of_ble_eq_true rfl) rfl (Nat.le_of_ble_eq_true rfl) (Nat.le_of_ble_eq_true rfl) (St_ho hg St_3) h (fun x1 n2 μ3 h => ?_)
  refine b_istore_n (L' := [(0, .inr 3), (1, .inl x1)]) [1, 0] dX4_readNodes_8 rfl (by decide) rfl ?_
  refine a_aload_n (k := 0) dX4_readNodes_9 rfl rfl ?_
  refine k_X4_66 rfl dX4_readNodes_10 (Nat.le_of_ble_eq_true rfl) rfl (Nat.le_of_ble_eq_true rfl) (Nat.le_of_ble_eq_true rfl) (St_ho hg St_3) h (fun n5 μ6 h => ?_)
  refine a_aload_n (k := 0) dX4_readNodes_13 rfl rfl ?_
  refine g_X4_26 rfl dX4_readNodes_14 (St_ho hg St_3) ?_
  refine a_iconst dX4_readNodes_17 (by decide) ?_
  refine a_icmp_ne (tgt := 29) dX4_readNodes_18 (by decide) (fun c7 => ?_) (fun c7 => ?_)
  · replace h := h.1 c7
    exact a_ret dX4_readNodes_29 rfl (Nat.le_of_ble_eq_true rfl) (Nat.le_of_ble_eq_true rfl) h
  · replace h := h.2 c7
    refine a_aload_n (k := 0) dX4_readNodes_21 rfl rfl ?_
    refine gs_X4_18 rfl dX4_readNodes_22 hg St_3 ?_
    refine a_iload_n (k := 1) dX4_readNodes_25 rfl rfl ?_
    refine p_X4_69 rfl dX4_readNodes_26 (St_ho hg St_4) (FX_put hg St_4 rfl) ?_
    exact a_ret dX4_readNodes_29 rfl (Nat.le_of_ble_eq_true rfl) (Nat.le_of_ble_eq_true rfl) h
theorem m_X4_readContact {G : GT} (hg : gx G = FX) {n : Nat} {μ : Mem} {Q : Nat → Mem → Prop}  (h : ((inR ((μ 4 3) - 1)) ∧ ((0 ≤ 1 ∧ 0 ≤ 6) ∧ (CI G Y_X4_readNumber [.inr 3, .inl 0, .inl ((μ 4 3) - 1), .inl (-1)] n μ (fun (x2 : Int) (n3 : Nat) (μ4 : Mem) => ((inR ((μ4 4 3) - 1)) ∧ ((0 ≤ 1 ∧ 0 ≤ 6) ∧ (CI G Y_X4_readNumber [.inr 3, .inl 0, .inl ((μ4 4 3) - 1), .inl x2] n3 μ4 (fun (x6 : Int) (n7 : Nat) (μ8 : Mem) => ((0 ≤ 1 ∧ 0 ≤ 6) ∧ (CI G Y_X4_readNumber [.inr 3, .inl 0, .inl 98, .inl (-1)] n7 μ8 (fun (x9 : Int) (n10 : Nat) (μ11 : Mem) => ((inR (x9 + 1)) ∧ ((0 ≤ 1 ∧ 0 ≤ 6) ∧ (CI G Y_X4_readNumber [.inr 3, .inl (x9 + 1), .inl 99, .inl (-1)] n10 μ11 (fun (x13 : Int) (n14 : Nat) (μ15 : Mem) => ((0 ≤ 1 ∧ 0 ≤ 6) ∧ (CI G Y_X4_readNumber [.inr 3, .inl 1, .inl 9, .inl (-1)] n14 μ15 (fun (x16 : Int) (n17 : Nat) (μ18 : Mem) => ((0 ≤ 1 ∧ 0 ≤ 6) ∧ (CI G Y_X4_readNumber [.inr 3, .inl 0, .inl 9, .inl (-1)] n17 μ18 (fun (x19 : Int) (n20 : Nat) (μ21 : Mem) => ((0 ≤ 1 ∧ 0 ≤ 6) ∧ (CV G Y_X4_readSemicolon [.inr 3] n20 μ21 (fun (n23 : Nat) (μ24 : Mem) => ((¬ ((μ24 3 3) = (-1)) → ((0 ≤ 1 ∧ 0 ≤ 6) ∧ (Q n23 μ24))) ∧ ((μ24 3 3) = (-1) → ((0 + 1 ≤ 1 ∧ 0 + 6 ≤ 6) ∧ ((0 + 1 ≤ 1 ∧ 0 + 6 ≤ 6) ∧ (CV G Y_X1_init [.inr (n23 : Int), .inl x2, .inl x6, .inl x9, .inl x13, .inl x16, .inl x19] (n23 + 1) (nw μ24 n23 (objD 1)) (fun (n30 : Nat) (μ31 : Mem) => ((0 + 1 ≤ 1 ∧ 0 + 6 ≤ 6) ∧ (CV G Y_X3_addContact [.inr 4, .inr (n23 : Int)] n30 μ31 (fun (n33 : Nat) (μ34 : Mem) => ((0 + 1 ≤ 1 ∧ 0 + 6 ≤ 6) ∧ (Q n33 μ34)))))))))))))))))))))))))))))))))))) : CV G Y_X4_readContact [.inr 3] n μ Q := by
  refine e_V (by decide) (Nat.le_of_ble_eq_true rfl) ?_
  show Wa G Y_X4_readContact (ZV G Y_X4_readContact Q) 0 0 n μ 0 [(0, .inr 3)] []
  refine a_aload_n (k := 0) dX4_readContact_0 rfl rfl ?_
  refine a_iconst dX4_readContact_1 (by decide) ?_
  refine a_aload_n (k := 0) dX4_readContact_2 rfl rfl ?_
  refine gs_X4_18 rfl dX4_readContact_3 hg St_3 ?_
  refine g_X4_69 rfl dX4_readContact_6 (St_ho hg St_4) ?_
  refine a_iconst dX4_readContact_9 (by decide) ?_
  obtain ⟨q1, h⟩ := h
  refine a_isub dX4_readContact_10 q1 ?_
  refine a_iconst dX4_readContact_11 (by decide) ?_
  obtain ⟨q44, h⟩ := h
  refine k_X4_62 rfl dX4_readContact_12 (Nat.le_of_ble_eq_true rfl) rfl q44.1 q44.2 (St_ho hg St_3) h (fun x2 n3 μ4 h => ?_)
  refine b_istore_n (L' := [(0, .inr 3), (1, .inl x2)]) [1, 0] dX4_readContact_15 rfl (by decide) rfl ?_
  refine a_aload_n (k := 0) dX4_readContact_16 rfl rfl ?_
  refine a_iconst dX4_readContact_17 (by decide) ?_
  refine a_aload_n (k := 0) dX4_readContact_18 rfl rfl ?_
  refine gs_X4_18 rfl dX4_readContact_19 hg St_3 ?_
  refine g_X4_69 rfl dX4_readContact_22 (St_ho hg St_4) ?_
  refine a_iconst dX4_readContact_25 (by decide) ?_
  obtain ⟨q5, h⟩ := h
  refine a_isub dX4_readContact_26 q5 ?_
  refine a_iload_n (k := 1) dX4_readContact_27 rfl rfl ?_
  obtain ⟨q43, h⟩ := h
  refine k_X4_62 rfl dX4_readContact_28 (Nat.le_of_ble_eq_true rfl) rfl q43.1 q43.2 (St_ho hg St_3) h (fun x6 n7 μ8 h => ?_)
  refine b_istore_n (L' := [(0, .inr 3), (1, .inl x2), (2, .inl x6)]) [1, 2, 0] dX4_readContact_31 rfl (by decide) rfl ?_
  refine a_aload_n (k := 0) dX4_readContact_32 rfl rfl ?_
  refine a_iconst dX4_readContact_33 (by decide) ?_
  refine a_bipush dX4_readContact_34 (by decide) (by decide) ?_
  refine a_iconst dX4_readContact_36 (by decide) ?_
  obtain ⟨q42, h⟩ := h
  refine k_X4_62 rfl dX4_readContact_37 (Nat.le_of_ble_eq_true rfl) rfl q42.1 q42.2 (St_ho hg St_3) h (fun x9 n10 μ11 h => ?_)
  refine b_istore_n (L' := [(0, .inr 3), (1, .inl x2), (2, .inl x6), (3, .inl x9)]) [1, 2, 3, 0] dX4_readContact_40 rfl (by decide) rfl ?_
  refine a_aload_n (k := 0) dX4_readContact_41 rfl rfl ?_
  refine a_iload_n (k := 3) dX4_readContact_42 rfl rfl ?_
  refine a_iconst dX4_readContact_43 (by decide) ?_
  obtain ⟨q12, h⟩ := h
  refine a_iadd dX4_readContact_44 q12 ?_
  refine a_bipush dX4_readContact_45 (by decide) (by decide) ?_
  refine a_iconst dX4_readContact_47 (by decide) ?_
  obtain ⟨q41, h⟩ := h
  refine k_X4_62 rfl dX4_readContact_48 (Nat.le_of_ble_eq_true rfl) rfl q41.1 q41.2 (St_ho hg St_3) h (fun x13 n14 μ15 h => ?_)
  refine b_istore (L' := [(0, .inr 3), (1, .inl x2), (2, .inl x6), (3, .inl x9), (4, .inl x13)]) [1, 2, 3, 4, 0] dX4_readContact_51 (by decide) rfl ?_
  refine a_aload_n (k := 0) dX4_readContact_53 rfl rfl ?_
  refine a_iconst dX4_readContact_54 (by decide) ?_
  refine a_bipush dX4_readContact_55 (by decide) (by decide) ?_
  refine a_iconst dX4_readContact_57 (by decide) ?_
  obtain ⟨q40, h⟩ := h
  refine k_X4_62 rfl dX4_readContact_58 (Nat.le_of_ble_eq_true rfl) rfl q40.1 q40.2 (St_ho hg St_3) h (fun x16 n17 μ18 h => ?_)
  refine b_istore (L' := [(0, .inr 3), (1, .inl x2), (2, .inl x6), (3, .inl x9), (4, .inl x13), (5, .inl x16)]) [1, 2, 3, 4, 5, 0] dX4_readContact_61 (by decide) rfl ?_
  refine a_aload_n (k := 0) dX4_readContact_63 rfl rfl ?_
  refine a_iconst dX4_readContact_64 (by decide) ?_
  refine a_bipush dX4_readContact_65 (by decide) (by decide) ?_
  refine a_iconst dX4_readContact_67 (by decide) ?_
  obtain ⟨q39, h⟩ := h
  refine k_X4_62 rfl dX4_readContact_68 (Nat.le_of_ble_eq_true rfl) rfl q39.1 q39.2 (St_ho hg St_3) h (fun x19 n20 μ21 h => ?_)
  refine b_istore (L' := [(0, .inr 3), (1, .inl x2), (2, .inl x6), (3, .inl x9), (4, .inl x13), (5, .inl x16), (6, .inl x19)]) [1, 2, 3, 4, 5, 6, 0] dX4_readContact_71 (by decide) rfl ?_
  refine a_aload_n (k := 0) dX4_readContact_73 rfl rfl ?_
  obtain ⟨q38, h⟩ := h
  refine k_X4_66 rfl dX4_readContact_74 (Nat.le_of_ble_eq_true rfl) rfl q38.1 q38.2 (St_ho hg St_3) h (fun n23 μ24 h => ?_)
  refine a_aload_n (k := 0) dX4_readContact_77 rfl rfl ?_
  refine g_X4_26 rfl dX4_readContact_78 (St_ho hg St_3) ?_
  refine a_iconst dX4_readContact_81 (by decide) ?_
  refine a_icmp_ne (tgt := 108) dX4_readContact_82 (by decide) (fun c25 => ?_) (fun c25 => ?_)
  · replace h := h.1 c25
    obtain ⟨q26, h⟩ := h
    exact a_ret dX4_readContact_108 rfl q26.1 q26.2 h
  · replace h := h.2 c25
    refine a_aload_n (k := 0) dX4_readContact_85 rfl rfl ?_
    refine gs_X4_18 rfl dX4_readContact_86 hg St_3 ?_
    obtain ⟨q28, h⟩ := h
    refine a_fx (fun f27 => n_X4_72 rfl dX4_readContact_89 (SH_new hg f27) q28.1 q28.2 (FX_new hg) ?_)
    refine a_dup dX4_readContact_92 ?_
    refine a_iload_n (k := 1) dX4_readContact_93 rfl rfl ?_
    refine a_iload_n (k := 2) dX4_readContact_94 rfl rfl ?_
    refine a_iload_n (k := 3) dX4_readContact_95 rfl rfl ?_
    refine a_iload (k := 4) dX4_readContact_96 rfl ?_
    refine a_iload (k := 5) dX4_readContact_98 rfl ?_
    refine a_iload (k := 6) dX4_readContact_100 rfl ?_
    obtain ⟨q37, h⟩ := h
    refine k_X4_74 rfl dX4_readContact_102 (Nat.le_of_ble_eq_true rfl) rfl q37.1 q37.2 (Int.natCast_nonneg _) h (fun n30 μ31 h => ?_)
    obtain ⟨q36, h⟩ := h
    refine k_X4_77 rfl dX4_readContact_105 (Nat.le_of_ble_eq_true rfl) rfl q36.1 q36.2 (St_ho hg St_4) h (fun n33 μ34 h => ?_)
    obtain ⟨q35, h⟩ := h
    exact a_ret dX4_readContact_108 rfl q35.1 q35.2 h
abbrev B_X4_readNumber_13 (G : GT) (Q : Int → Nat → Mem → Prop) (n : Nat) (μ : Mem) (v1 : Int) (v2 : Int) (v3 : Int) (v4 : Int) (v5 : Int) : Prop := Wa G Y_X4_readNumber (ZI G Y_X4_readNumber Q) 0 0 n μ 13 [(0, .inr 3), (1, .inl v1), (2, .inl v2), (3, .inl v3), (4, .inl v4), (5, .inl v5)] []
abbrev B_X4_readNumber_84 (G : GT) (Q : Int → Nat → Mem → Prop) (n : Nat) (μ : Mem) (v1 : Int) (v2 : Int) (v3 : Int) (v4 : Int) (v5 : Int) : Prop := Wa G Y_X4_readNumber (ZI G Y_X4_readNumber Q) 0 0 n μ 84 [(0, .inr 3), (1, .inl v1), (2, .inl v2), (3, .inl v3), (4, .inl v4), (5, .inl v5)] []
abbrev B_X4_readNumber_113 (G : GT) (Q : Int → Nat → Mem → Prop) (n : Nat) (μ : Mem) (v1 : Int) (v2 : Int) (v3 : Int) (v4 : Int) (v5 : Int) : Prop := Wa G Y_X4_readNumber (ZI G Y_X4_readNumber Q) 0 0 n μ 113 [(0, .inr 3), (1, .inl v1), (2, .inl v2), (3, .inl v3), (4, .inl v4), (5, .inl v5)] []
abbrev B_X4_readNumber_114 (G : GT) (Q : Int → Nat → Mem → Prop) (n : Nat) (μ : Mem) (v1 : Int) (v2 : Int) (v3 : Int) (v4 : Int) (v5 : Int) (u0 : Int) : Prop := Wa G Y_X4_readNumber (ZI G Y_X4_readNumber Q) 0 0 n μ 114 [(0, .inr 3), (1, .inl v1), (2, .inl v2), (3, .inl v3), (4, .inl v4), (5, .inl v5)] [.inl u0]
abbrev B_X4_readNumber_146 (G : GT) (Q : Int → Nat → Mem → Prop) (n : Nat) (μ : Mem) (v4 : Int) (v5 : Int) : Prop := Wa G Y_X4_readNumber (ZI G Y_X4_readNumber Q) 0 0 n μ 146 [(0, .inr 3), (4, .inl v4), (5, .inl v5)] []
theorem m_X4_readNumber {G : GT} (hg : gx G = FX) {n : Nat} {μ : Mem} {Q : Int → Nat → Mem → Prop} {v1 v2 v3 : Int}  (h : (CV G Y_X4_skipBlanks [.inr 3] n μ (fun (n2 : Nat) (μ3 : Mem) => (B_X4_readNumber_13 G Q n2 μ3 v1 v2 v3 (μ3 3 2) 0)))) : CI G Y_X4_readNumber [.inr 3, .inl v1, .inl v2, .inl v3] n μ Q := by
  refine e_I (by decide) (Nat.le_of_ble_eq_true rfl) ?_
  show Wa G Y_X4_readNumber (ZI G Y_X4_readNumber Q) 0 0 n μ 0 [(0, .inr 3), (1, .inl v1), (2, .inl v2), (3, .inl v3)] []
  refine a_aload_n (k := 0) dX4_readNumber_0 rfl rfl ?_
  refine k_X4_32 rfl dX4_readNumber_1 (Nat.le_of_ble_eq_true rfl) rfl (Nat.le_of_ble_eq_true rfl) (Nat.le_of_ble_eq_true rfl) (St_ho hg St_3) h (fun n2 μ3 h => ?_)
  refine a_aload_n (k := 0) dX4_readNumber_4 rfl rfl ?_
  refine g_X4_22 rfl dX4_readNumber_5 (St_ho hg St_3) ?_
  refine b_istore (L' := [(0, .inr 3), (1, .inl v1), (2, .inl v2), (3, .inl v3), (4, .inl (μ3 3 2))]) [1, 2, 3, 4, 0] dX4_readNumber_8 (by decide) rfl ?_
  refine a_iconst dX4_readNumber_10 (by decide) ?_
  refine b_istore (L' := [(0, .inr 3), (1, .inl v1), (2, .inl v2), (3, .inl v3), (4, .inl (μ3 3 2)), (5, .inl 0)]) [1, 2, 3, 4, 5, 0] dX4_readNumber_11 (by decide) rfl ?_
  exact h
theorem b_X4_readNumber_13 {G : GT} (hg : gx G = FX) {n : Nat} {μ : Mem} {Q : Int → Nat → Mem → Prop} {v1 v2 v3 v4 v5 : Int}  (h : (((μ 1 1) ≤ (μ 3 2) → (B_X4_readNumber_84 G Q n μ v1 v2 v3 v4 v5)) ∧ (¬ ((μ 1 1) ≤ (μ 3 2)) → (CI G Y_X9_byteAt [.inr 1, .inl (μ 3 2)] n μ (fun (x2 : Int) (n3 : Nat) (μ4 : Mem) => (CI G Y_X4_isDigit [.inl x2] n3 μ4 (fun (x5 : Int) (n6 : Nat) (μ7 : Mem) => ((x5 = 0 → (B_X4_readNumber_84 G Q n6 μ7 v1 v2 v3 v4 v5)) ∧ (¬ (x5 = 0) → ((inR (v5 * 10)) ∧ (CI G Y_X9_byteAt [.inr 1, .inl (μ7 3 2)] n6 μ7 (fun (x10 : Int) (n11 : Nat) (μ12 : Mem) => ((inR ((v5 * 10) + x10)) ∧ ((inR (((v5 * 10) + x10) - 48)) ∧ ((inR ((μ12 3 2) + 1)) ∧ (B_X4_readNumber_13 G Q n11 (up μ12 3 2 ((μ12 3 2) + 1)) v1 v2 v3 v4 (if 100 < ((v5 * 10) + x10) - 48 then 100 else ((v5 * 10) + x10) - 48))))))))))))))))) : B_X4_readNumber_13 G Q n μ v1 v2 v3 v4 v5 := by
  show Wa G Y_X4_readNumber (ZI G Y_X4_readNumber Q) 0 0 n μ 13 [(0, .inr 3), (1, .inl v1), (2, .inl v2), (3, .inl v3), (4, .inl v4), (5, .inl v5)] []
  refine a_aload_n (k := 0) dX4_readNumber_13 rfl rfl ?_
  refine g_X4_22 rfl dX4_readNumber_14 (St_ho hg St_3) ?_
  refine a_aload_n (k := 0) dX4_readNumber_17 rfl rfl ?_
  refine gs_X4_9 rfl dX4_readNumber_18 hg St_3 ?_
  refine g_X4_35 rfl dX4_readNumber_21 (St_ho hg St_1) ?_
  refine a_icmp_ge (tgt := 84) dX4_readNumber_24 (by decide) (fun c1 => ?_) (fun c1 => ?_)
  · replace h := h.1 c1
    exact h
  · replace h := h.2 c1
    refine a_aload_n (k := 0) dX4_readNumber_27 rfl rfl ?_
    refine gs_X4_9 rfl dX4_readNumber_28 hg St_3 ?_
    refine a_aload_n (k := 0) dX4_readNumber_31 rfl rfl ?_
    refine g_X4_22 rfl dX4_readNumber_32 (St_ho hg St_3) ?_
    refine k_X4_44 rfl dX4_readNumber_35 (Nat.le_of_ble_eq_true rfl) rfl (Nat.le_of_ble_eq_true rfl) (Nat.le_of_ble_eq_true rfl) (St_ho hg St_1) h (fun x2 n3 μ4 h => ?_)
    refine k_X4_81 rfl dX4_readNumber_38 (Nat.le_of_ble_eq_true rfl) rfl (Nat.le_of_ble_eq_true rfl) (Nat.le_of_ble_eq_true rfl) h (fun x5 n6 μ7 h => ?_)
    refine a_if_eq (tgt := 84) dX4_readNumber_41 (by decide) (fun c8 => ?_) (fun c8 => ?_)
    · replace h := h.1 c8
      exact h
    · replace h := h.2 c8
      refine a_iload (k := 5) dX4_readNumber_44 rfl ?_
      refine a_bipush dX4_readNumber_46 (by decide) (by decide) ?_
      obtain ⟨q9, h⟩ := h
      refine a_imul dX4_readNumber_48 q9 ?_
      refine a_aload_n (k := 0) dX4_readNumber_49 rfl rfl ?_
      refine gs_X4_9 rfl dX4_readNumber_50 hg St_3 ?_
      refine a_aload_n (k := 0) dX4_readNumber_53 rfl rfl ?_
      refine g_X4_22 rfl dX4_readNumber_54 (St_ho hg St_3) ?_
      refine k_X4_44 rfl dX4_readNumber_57 (Nat.le_of_ble_eq_true rfl) rfl (Nat.le_of_ble_eq_true rfl) (Nat.le_of_ble_eq_true rfl) (St_ho hg St_1) h (fun x10 n11 μ12 h => ?_)
      obtain ⟨q13, h⟩ := h
      refine a_iadd dX4_readNumber_60 q13 ?_
      refine a_bipush dX4_readNumber_61 (by decide) (by decide) ?_
      obtain ⟨q14, h⟩ := h
      refine a_isub dX4_readNumber_63 q14 ?_
      refine a_bipush dX4_readNumber_64 (by decide) (by decide) ?_
      refine k_X4_85 rfl dX4_readNumber_66 (Nat.le_of_ble_eq_true rfl) rfl rfl (Nat.le_of_ble_eq_true rfl) (Nat.le_of_ble_eq_true rfl) ?_
      refine b_istore (L' := [(0, .inr 3), (1, .inl v1), (2, .inl v2), (3, .inl v3), (4, .inl v4), (5, .inl (if 100 < ((v5 * 10) + x10) - 48 then 100 else ((v5 * 10) + x10) - 48))]) [1, 2, 3, 4, 5, 0] dX4_readNumber_69 (by decide) rfl ?_
      refine a_aload_n (k := 0) dX4_readNumber_71 rfl rfl ?_
      refine a_dup dX4_readNumber_72 ?_
      refine g_X4_22 rfl dX4_readNumber_73 (St_ho hg St_3) ?_
      refine a_iconst dX4_readNumber_76 (by decide) ?_
      obtain ⟨q15, h⟩ := h
      refine a_iadd dX4_readNumber_77 q15 ?_
      refine p_X4_22 rfl dX4_readNumber_78 (St_ho hg St_3) (FX_put hg St_3 rfl) ?_
      refine a_goto (tgt := 13) dX4_readNumber_81 (by decide) ?_
      exact h
theorem b_X4_readNumber_84 {G : GT} (hg : gx G = FX) {n : Nat} {μ : Mem} {Q : Int → Nat → Mem → Prop} {v1 v2 v3 v4 v5 : Int}  (h : ((inR ((μ 3 2) - v4)) ∧ ((((μ 3 2) - v4) ≤ 1 → (B_X4_readNumber_113 G Q n μ v1 v2 v3 v4 v5)) ∧ (¬ (((μ 3 2) - v4) ≤ 1) → (CI G Y_X9_byteAt [.inr 1, .inl v4] n μ (fun (x3 : Int) (n4 : Nat) (μ5 : Mem) => ((¬ (x3 = 48) → (B_X4_readNumber_113 G Q n4 μ5 v1 v2 v3 v4 v5)) ∧ (x3 = 48 → (B_X4_readNumber_114 G Q n4 μ5 v1 v2 v3 v4 v5 1))))))))) : B_X4_readNumber_84 G Q n μ v1 v2 v3 v4 v5 := by
  show Wa G Y_X4_readNumber (ZI G Y_X4_readNumber Q) 0 0 n μ 84 [(0, .inr 3), (1, .inl v1), (2, .inl v2), (3, .inl v3), (4, .inl v4), (5, .inl v5)] []
  refine a_aload_n (k := 0) dX4_readNumber_84 rfl rfl ?_
  refine g_X4_22 rfl dX4_readNumber_85 (St_ho hg St_3) ?_
  refine a_iload (k := 4) dX4_readNumber_88 rfl ?_
  obtain ⟨q1, h⟩ := h
  refine a_isub dX4_readNumber_90 q1 ?_
  refine a_iconst dX4_readNumber_91 (by decide) ?_
  refine a_icmp_le (tgt := 113) dX4_readNumber_92 (by decide) (fun c2 => ?_) (fun c2 => ?_)
  · replace h := h.1 c2
    exact h
  · replace h := h.2 c2
    refine a_aload_n (k := 0) dX4_readNumber_95 rfl rfl ?_
    refine gs_X4_9 rfl dX4_readNumber_96 hg St_3 ?_
    refine a_iload (k := 4) dX4_readNumber_99 rfl ?_
    refine k_X4_44 rfl dX4_readNumber_101 (Nat.le_of_ble_eq_true rfl) rfl (Nat.le_of_ble_eq_true rfl) (Nat.le_of_ble_eq_true rfl) (St_ho hg St_1) h (fun x3 n4 μ5 h => ?_)
    refine a_bipush dX4_readNumber_104 (by decide) (by decide) ?_
    refine a_icmp_ne (tgt := 113) dX4_readNumber_106 (by decide) (fun c6 => ?_) (fun c6 => ?_)
    · replace h := h.1 c6
      exact h
    · replace h := h.2 c6
      refine a_iconst dX4_readNumber_109 (by decide) ?_
      refine a_goto (tgt := 114) dX4_readNumber_110 (by decide) ?_
      exact h
theorem b_X4_readNumber_113 {G : GT} (hg : gx G = FX) {n : Nat} {μ : Mem} {Q : Int → Nat → Mem → Prop} {v1 v2 v3 v4 v5 : Int}  (h : (B_X4_readNumber_114 G Q n μ v1 v2 v3 v4 v5 0)) : B_X4_readNumber_113 G Q n μ v1 v2 v3 v4 v5 := by
  show Wa G Y_X4_readNumber (ZI G Y_X4_readNumber Q) 0 0 n μ 113 [(0, .inr 3), (1, .inl v1), (2, .inl v2), (3, .inl v3), (4, .inl v4), (5, .inl v5)] []
  refine a_iconst dX4_readNumber_113 (by decide) ?_
  exact h
theorem b_X4_readNumber_114 {G : GT} (hg : gx G = FX) {n : Nat} {μ : Mem} {Q : Int → Nat → Mem → Prop} {v1 v2 v3 v4 v5 u0 : Int}  (h : (((μ 3 2) = v4 → (B_X4_readNumber_146 G Q n μ v4 v5)) ∧ (¬ ((μ 3 2) = v4) → ((¬ (u0 = 0) → (B_X4_readNumber_146 G Q n μ v4 v5)) ∧ (u0 = 0 → (CI G Y_X10_isWithin [.inl v5, .inl v1, .inl v2] n μ (fun (x3 : Int) (n4 : Nat) (μ5 : Mem) => ((x3 = 0 → (B_X4_readNumber_146 G Q n4 μ5 v4 v5)) ∧ (¬ (x3 = 0) → ((¬ (v5 = v3) → (Q v5 n4 μ5)) ∧ (v5 = v3 → (B_X4_readNumber_146 G Q n4 μ5 v4 v5)))))))))))) : B_X4_readNumber_114 G Q n μ v1 v2 v3 v4 v5 u0 := by
  show Wa G Y_X4_readNumber (ZI G Y_X4_readNumber Q) 0 0 n μ 114 [(0, .inr 3), (1, .inl v1), (2, .inl v2), (3, .inl v3), (4, .inl v4), (5, .inl v5)] [.inl u0]
  refine b_istore (L' := [(0, .inr 3), (1, .inl v1), (2, .inl v2), (3, .inl v3), (4, .inl v4), (5, .inl v5), (6, .inl u0)]) [1, 2, 3, 4, 5, 6, 0] dX4_readNumber_114 (by decide) rfl ?_
  refine a_aload_n (k := 0) dX4_readNumber_116 rfl rfl ?_
  refine g_X4_22 rfl dX4_readNumber_117 (St_ho hg St_3) ?_
  refine a_iload (k := 4) dX4_readNumber_120 rfl ?_
  refine a_icmp_eq (tgt := 146) dX4_readNumber_122 (by decide) (fun c1 => ?_) (fun c1 => ?_)
  · replace h := h.1 c1
    refine a_sub [0, 4, 5] rfl ?_
    exact h
  · replace h := h.2 c1
    refine a_iload (k := 6) dX4_readNumber_125 rfl ?_
    refine a_if_ne (tgt := 146) dX4_readNumber_127 (by decide) (fun c2 => ?_) (fun c2 => ?_)
    · replace h := h.1 c2
      refine a_sub [0, 4, 5] rfl ?_
      exact h
    · replace h := h.2 c2
      refine a_iload (k := 5) dX4_readNumber_130 rfl ?_
      refine a_iload_n (k := 1) dX4_readNumber_132 rfl rfl ?_
      refine a_iload_n (k := 2) dX4_readNumber_133 rfl rfl ?_
      refine k_X4_91 rfl dX4_readNumber_134 (Nat.le_of_ble_eq_true rfl) rfl (Nat.le_of_ble_eq_true rfl) (Nat.le_of_ble_eq_true rfl) h (fun x3 n4 μ5 h => ?_)
      refine a_if_eq (tgt := 146) dX4_readNumber_137 (by decide) (fun c6 => ?_) (fun c6 => ?_)
      · replace h := h.1 c6
        refine a_sub [0, 4, 5] rfl ?_
        exact h
      · replace h := h.2 c6
        refine a_iload (k := 5) dX4_readNumber_140 rfl ?_
        refine a_iload_n (k := 3) dX4_readNumber_142 rfl rfl ?_
        refine a_icmp_ne (tgt := 152) dX4_readNumber_143 (by decide) (fun c7 => ?_) (fun c7 => ?_)
        · replace h := h.1 c7
          refine a_iload (k := 5) dX4_readNumber_152 rfl ?_
          exact a_iret dX4_readNumber_154 rfl (Nat.le_of_ble_eq_true rfl) (Nat.le_of_ble_eq_true rfl) h
        · replace h := h.2 c7
          refine a_sub [0, 4, 5] rfl ?_
          exact h
theorem b_X4_readNumber_146 {G : GT} (hg : gx G = FX) {n : Nat} {μ : Mem} {Q : Int → Nat → Mem → Prop} {v4 v5 : Int}  (h : (CV G Y_X4_blame [.inr 3, .inl v4] n μ (fun (n2 : Nat) (μ3 : Mem) => (Q v5 n2 μ3)))) : B_X4_readNumber_146 G Q n μ v4 v5 := by
  show Wa G Y_X4_readNumber (ZI G Y_X4_readNumber Q) 0 0 n μ 146 [(0, .inr 3), (4, .inl v4), (5, .inl v5)] []
  refine a_aload_n (k := 0) dX4_readNumber_146 rfl rfl ?_
  refine a_iload (k := 1) dX4_readNumber_147 rfl ?_
  refine k_X4_58 rfl dX4_readNumber_149 (Nat.le_of_ble_eq_true rfl) rfl (Nat.le_of_ble_eq_true rfl) (Nat.le_of_ble_eq_true rfl) (St_ho hg St_3) h (fun n2 μ3 h => ?_)
  refine a_iload (k := 2) dX4_readNumber_152 rfl ?_
  exact a_iret dX4_readNumber_154 rfl (Nat.le_of_ble_eq_true rfl) (Nat.le_of_ble_eq_true rfl) h
theorem m_X4_readSemicolon {G : GT} (hg : gx G = FX) {n : Nat} {μ : Mem} {Q : Nat → Mem → Prop}  (h : (CV G Y_X4_skipBlanks [.inr 3] n μ (fun (n2 : Nat) (μ3 : Mem) => (CI G Y_X9_byteAt [.inr 1, .inl (μ3 3 2)] n2 μ3 (fun (x4 : Int) (n5 : Nat) (μ6 : Mem) => ((¬ (x4 = 59) → (CV G Y_X4_blame [.inr 3, .inl (μ6 3 2)] n5 μ6 (fun (n9 : Nat) (μ10 : Mem) => (Q n9 μ10)))) ∧ (x4 = 59 → ((inR ((μ6 3 2) + 1)) ∧ (Q n5 (up μ6 3 2 ((μ6 3 2) + 1))))))))))) : CV G Y_X4_readSemicolon [.inr 3] n μ Q := by
  refine e_V (by decide) (Nat.le_of_ble_eq_true rfl) ?_
  show Wa G Y_X4_readSemicolon (ZV G Y_X4_readSemicolon Q) 0 0 n μ 0 [(0, .inr 3)] []
  refine a_aload_n (k := 0) dX4_readSemicolon_0 rfl rfl ?_
  refine k_X4_32 rfl dX4_readSemicolon_1 (Nat.le_of_ble_eq_true rfl) rfl (Nat.le_of_ble_eq_true rfl) (Nat.le_of_ble_eq_true rfl) (St_ho hg St_3) h (fun n2 μ3 h => ?_)
  refine a_aload_n (k := 0) dX4_readSemicolon_4 rfl rfl ?_
  refine gs_X4_9 rfl dX4_readSemicolon_5 hg St_3 ?_
  refine a_aload_n (k := 0) dX4_readSemicolon_8 rfl rfl ?_
  refine g_X4_22 rfl dX4_readSemicolon_9 (St_ho hg St_3) ?_
  refine k_X4_44 rfl dX4_readSemicolon_12 (Nat.le_of_ble_eq_true rfl) rfl (Nat.le_of_ble_eq_true rfl) (Nat.le_of_ble_eq_true rfl) (St_ho hg St_1) h (fun x4 n5 μ6 h => ?_)
  refine a_bipush dX4_readSemicolon_15 (by decide) (by decide) ?_
  refine a_icmp_ne (tgt := 33) dX4_readSemicolon_17 (by decide) (fun c7 => ?_) (fun c7 => ?_)
  · replace h := h.1 c7
    refine a_aload_n (k := 0) dX4_readSemicolon_33 rfl rfl ?_
    refine a_aload_n (k := 0) dX4_readSemicolon_34 rfl rfl ?_
    refine g_X4_22 rfl dX4_readSemicolon_35 (St_ho hg St_3) ?_
    refine k_X4_58 rfl dX4_readSemicolon_38 (Nat.le_of_ble_eq_true rfl) rfl (Nat.le_of_ble_eq_true rfl) (Nat.le_of_ble_eq_true rfl) (St_ho hg St_3) h (fun n9 μ10 h => ?_)
    exact a_ret dX4_readSemicolon_41 rfl (Nat.le_of_ble_eq_true rfl) (Nat.le_of_ble_eq_true rfl) h
  · replace h := h.2 c7
    refine a_aload_n (k := 0) dX4_readSemicolon_20 rfl rfl ?_
    refine a_dup dX4_readSemicolon_21 ?_
    refine g_X4_22 rfl dX4_readSemicolon_22 (St_ho hg St_3) ?_
    refine a_iconst dX4_readSemicolon_25 (by decide) ?_
    obtain ⟨q11, h⟩ := h
    refine a_iadd dX4_readSemicolon_26 q11 ?_
    refine p_X4_22 rfl dX4_readSemicolon_27 (St_ho hg St_3) (FX_put hg St_3 rfl) ?_
    refine a_goto (tgt := 41) dX4_readSemicolon_30 (by decide) ?_
    exact a_ret dX4_readSemicolon_41 rfl (Nat.le_of_ble_eq_true rfl) (Nat.le_of_ble_eq_true rfl) h
abbrev B_X4_skipBlanks_0 (G : GT) (Q : Nat → Mem → Prop) (n : Nat) (μ : Mem) : Prop := Wa G Y_X4_skipBlanks (ZV G Y_X4_skipBlanks Q) 0 0 n μ 0 [(0, .inr 3)] []
theorem b_X4_skipBlanks_0 {G : GT} (hg : gx G = FX) {n : Nat} {μ : Mem} {Q : Nat → Mem → Prop}  (h : (((μ 1 1) ≤ (μ 3 2) → (Q n μ)) ∧ (¬ ((μ 1 1) ≤ (μ 3 2)) → (CI G Y_X9_byteAt [.inr 1, .inl (μ 3 2)] n μ (fun (x2 : Int) (n3 : Nat) (μ4 : Mem) => ((¬ (x2 = 32) → (Q n3 μ4)) ∧ (x2 = 32 → ((inR ((μ4 3 2) + 1)) ∧ (B_X4_skipBlanks_0 G Q n3 (up μ4 3 2 ((μ4 3 2) + 1))))))))))) : B_X4_skipBlanks_0 G Q n μ := by
  show Wa G Y_X4_skipBlanks (ZV G Y_X4_skipBlanks Q) 0 0 n μ 0 [(0, .inr 3)] []
  refine a_aload_n (k := 0) dX4_skipBlanks_0 rfl rfl ?_
  refine g_X4_22 rfl dX4_skipBlanks_1 (St_ho hg St_3) ?_
  refine a_aload_n (k := 0) dX4_skipBlanks_4 rfl rfl ?_
  refine gs_X4_9 rfl dX4_skipBlanks_5 hg St_3 ?_
  refine g_X4_35 rfl dX4_skipBlanks_8 (St_ho hg St_1) ?_
  refine a_icmp_ge (tgt := 43) dX4_skipBlanks_11 (by decide) (fun c1 => ?_) (fun c1 => ?_)
  · replace h := h.1 c1
    exact a_ret dX4_skipBlanks_43 rfl (Nat.le_of_ble_eq_true rfl) (Nat.le_of_ble_eq_true rfl) h
  · replace h := h.2 c1
    refine a_aload_n (k := 0) dX4_skipBlanks_14 rfl rfl ?_
    refine gs_X4_9 rfl dX4_skipBlanks_15 hg St_3 ?_
    refine a_aload_n (k := 0) dX4_skipBlanks_18 rfl rfl ?_
    refine g_X4_22 rfl dX4_skipBlanks_19 (St_ho hg St_3) ?_
    refine k_X4_44 rfl dX4_skipBlanks_22 (Nat.le_of_ble_eq_true rfl) rfl (Nat.le_of_ble_eq_true rfl) (Nat.le_of_ble_eq_true rfl) (St_ho hg St_1) h (fun x2 n3 μ4 h => ?_)
    refine a_bipush dX4_skipBlanks_25 (by decide) (by decide) ?_
    refine a_icmp_ne (tgt := 43) dX4_skipBlanks_27 (by decide) (fun c5 => ?_) (fun c5 => ?_)
    · replace h := h.1 c5
      exact a_ret dX4_skipBlanks_43 rfl (Nat.le_of_ble_eq_true rfl) (Nat.le_of_ble_eq_true rfl) h
    · replace h := h.2 c5
      refine a_aload_n (k := 0) dX4_skipBlanks_30 rfl rfl ?_
      refine a_dup dX4_skipBlanks_31 ?_
      refine g_X4_22 rfl dX4_skipBlanks_32 (St_ho hg St_3) ?_
      refine a_iconst dX4_skipBlanks_35 (by decide) ?_
      obtain ⟨q6, h⟩ := h
      refine a_iadd dX4_skipBlanks_36 q6 ?_
      refine p_X4_22 rfl dX4_skipBlanks_37 (St_ho hg St_3) (FX_put hg St_3 rfl) ?_
      refine a_goto (tgt := 0) dX4_skipBlanks_40 (by decide) ?_
      exact h
theorem m_X4_skipBlanks {G : GT} (hg : gx G = FX) {n : Nat} {μ : Mem} {Q : Nat → Mem → Prop}  (h : B_X4_skipBlanks_0 G Q n μ) : CV G Y_X4_skipBlanks [.inr 3] n μ Q := e_V (by decide) (Nat.le_of_ble_eq_true rfl) h
theorem m_X4_isDigit {G : GT} (hg : gx G = FX) {n : Nat} {μ : Mem} {Q : Int → Nat → Mem → Prop} {v0 : Int}  (h : ((v0 < 48 → (Q 0 n μ)) ∧ (¬ (v0 < 48) → ((57 < v0 → (Q 0 n μ)) ∧ (¬ (57 < v0) → (Q 1 n μ)))))) : CI G Y_X4_isDigit [.inl v0] n μ Q := by
  refine e_I (by decide) (Nat.le_of_ble_eq_true rfl) ?_
  show Wa G Y_X4_isDigit (ZI G Y_X4_isDigit Q) 0 0 n μ 0 [(0, .inl v0)] []
  refine a_iload_n (k := 0) dX4_isDigit_0 rfl rfl ?_
  refine a_bipush dX4_isDigit_1 (by decide) (by decide) ?_
  refine a_icmp_lt (tgt := 16) dX4_isDigit_3 (by decide) (fun c1 => ?_) (fun c1 => ?_)
  · replace h := h.1 c1
    refine a_iconst dX4_isDigit_16 (by decide) ?_
    exact a_zret dX4_isDigit_17 rfl (Nat.le_of_ble_eq_true rfl) (Nat.le_of_ble_eq_true rfl) (by decide) h
  · replace h := h.2 c1
    refine a_iload_n (k := 0) dX4_isDigit_6 rfl rfl ?_
    refine a_bipush dX4_isDigit_7 (by decide) (by decide) ?_
    refine a_icmp_gt (tgt := 16) dX4_isDigit_9 (by decide) (fun c2 => ?_) (fun c2 => ?_)
    · replace h := h.1 c2
      refine a_iconst dX4_isDigit_16 (by decide) ?_
      exact a_zret dX4_isDigit_17 rfl (Nat.le_of_ble_eq_true rfl) (Nat.le_of_ble_eq_true rfl) (by decide) h
    · replace h := h.2 c2
      refine a_iconst dX4_isDigit_12 (by decide) ?_
      refine a_goto (tgt := 17) dX4_isDigit_13 (by decide) ?_
      exact a_zret dX4_isDigit_17 rfl (Nat.le_of_ble_eq_true rfl) (Nat.le_of_ble_eq_true rfl) (by decide) h
theorem m_X4_blame {G : GT} (hg : gx G = FX) {n : Nat} {μ : Mem} {Q : Nat → Mem → Prop} {v1 : Int}  (h : ((¬ ((μ 3 3) = (-1)) → (Q n μ)) ∧ ((μ 3 3) = (-1) → (Q n (up μ 3 3 v1))))) : CV G Y_X4_blame [.inr 3, .inl v1] n μ Q := by
  refine e_V (by decide) (Nat.le_of_ble_eq_true rfl) ?_
  show Wa G Y_X4_blame (ZV G Y_X4_blame Q) 0 0 n μ 0 [(0, .inr 3), (1, .inl v1)] []
  refine a_aload_n (k := 0) dX4_blame_0 rfl rfl ?_
  refine g_X4_26 rfl dX4_blame_1 (St_ho hg St_3) ?_
  refine a_iconst dX4_blame_4 (by decide) ?_
  refine a_icmp_ne (tgt := 13) dX4_blame_5 (by decide) (fun c1 => ?_) (fun c1 => ?_)
  · replace h := h.1 c1
    exact a_ret dX4_blame_13 rfl (Nat.le_of_ble_eq_true rfl) (Nat.le_of_ble_eq_true rfl) h
  · replace h := h.2 c1
    refine a_aload_n (k := 0) dX4_blame_8 rfl rfl ?_
    refine a_iload_n (k := 1) dX4_blame_9 rfl rfl ?_
    refine p_X4_26 rfl dX4_blame_10 (St_ho hg St_3) (FX_put hg St_3 rfl) ?_
    exact a_ret dX4_blame_13 rfl (Nat.le_of_ble_eq_true rfl) (Nat.le_of_ble_eq_true rfl) h
theorem m_X0_start {G : GT} (hg : gx G = FX) {n : Nat} {μ : Mem} {Q : Nat → Mem → Prop} {v0 v1 v2 v3 v4 v5 : Int} (o0 : St v0 0 9) (h : (CV G Y_X8_cut [.inr (v0 + 1), .inl 0] n (up (up (up (up (up (up (up μ v0 2 v1) v0 3 v2) v0 4 v3) v0 5 v4) v0 6 v5) v0 7 0) v0 8 0) (fun (n2 : Nat) (μ3 : Mem) => (Q n2 μ3)))) : CV G Y_X0_start [.inr v0, .inl v1, .inl v2, .inl v3, .inl v4, .inl v5] n μ Q := by
  refine e_V (by decide) (Nat.le_of_ble_eq_true rfl) ?_
  show Wa G Y_X0_start (ZV G Y_X0_start Q) 0 0 n μ 0 [(0, .inr v0), (1, .inl v1), (2, .inl v2), (3, .inl v3), (4, .inl v4), (5, .inl v5)] []
  refine a_aload_n (k := 0) dX0_start_0 rfl rfl ?_
  refine a_iload_n (k := 1) dX0_start_1 rfl rfl ?_
  refine p_X0_24 rfl dX0_start_2 (St_ho hg o0) (FX_put hg o0 rfl) ?_
  refine a_aload_n (k := 0) dX0_start_5 rfl rfl ?_
  refine a_iload_n (k := 2) dX0_start_6 rfl rfl ?_
  refine p_X0_28 rfl dX0_start_7 (St_ho hg o0) (FX_put hg o0 rfl) ?_
  refine a_aload_n (k := 0) dX0_start_10 rfl rfl ?_
  refine a_iload_n (k := 3) dX0_start_11 rfl rfl ?_
  refine p_X0_31 rfl dX0_start_12 (St_ho hg o0) (FX_put hg o0 rfl) ?_
  refine a_aload_n (k := 0) dX0_start_15 rfl rfl ?_
  refine a_iload (k := 4) dX0_start_16 rfl ?_
  refine p_X0_34 rfl dX0_start_18 (St_ho hg o0) (FX_put hg o0 rfl) ?_
  refine a_aload_n (k := 0) dX0_start_21 rfl rfl ?_
  refine a_iload (k := 5) dX0_start_22 rfl ?_
  refine p_X0_37 rfl dX0_start_24 (St_ho hg o0) (FX_put hg o0 rfl) ?_
  refine a_aload_n (k := 0) dX0_start_27 rfl rfl ?_
  refine a_iconst dX0_start_28 (by decide) ?_
  refine p_X0_40 rfl dX0_start_29 (St_ho hg o0) (by decide) (FX_put hg o0 rfl) ?_
  refine a_aload_n (k := 0) dX0_start_32 rfl rfl ?_
  refine a_iconst dX0_start_33 (by decide) ?_
  refine p_X0_44 rfl dX0_start_34 (St_ho hg o0) (FX_put hg o0 rfl) ?_
  refine a_aload_n (k := 0) dX0_start_37 rfl rfl ?_
  refine gs_X0_20 rfl dX0_start_38 hg o0 ?_
  refine a_iconst dX0_start_41 (by decide) ?_
  refine k_X0_47 rfl dX0_start_42 (Nat.le_of_ble_eq_true rfl) rfl (Nat.le_of_ble_eq_true rfl) (Nat.le_of_ble_eq_true rfl) (St_ho hg (st_0_1 o0)) h (fun n2 μ3 h => ?_)
  exact a_ret dX0_start_45 rfl (Nat.le_of_ble_eq_true rfl) (Nat.le_of_ble_eq_true rfl) h
theorem m_X0_copyFrom {G : GT} (hg : gx G = FX) {n : Nat} {μ : Mem} {Q : Nat → Mem → Prop} {v0 v1 : Int} (o0 : St v0 0 9) (o1 : St v1 0 9) (h : (CV G Y_X0_start [.inr v0, .inl (μ v1 2), .inl (μ v1 3), .inl (μ v1 4), .inl (μ v1 5), .inl (μ v1 6)] n μ (fun (n2 : Nat) (μ3 : Mem) => ((μ3 v1 7 = 0 ∨ μ3 v1 7 = 1) → (((μ3 v1 7) = 0 ∨ (μ3 v1 7) = 1) ∧ (CV G Y_X8_copyFrom [.inr (v0 + 1), .inr (v1 + 1)] n2 (up (up μ3 v0 7 (μ3 v1 7)) v0 8 ((up μ3 v0 7 (μ3 v1 7)) v1 8)) (fun (n7 : Nat) (μ8 : Mem) => (Q n7 μ8)))))))) : CV G Y_X0_copyFrom [.inr v0, .inr v1] n μ Q := by
  refine e_V (by decide) (Nat.le_of_ble_eq_true rfl) ?_
  show Wa G Y_X0_copyFrom (ZV G Y_X0_copyFrom Q) 0 0 n μ 0 [(0, .inr v0), (1, .inr v1)] []
  refine a_aload_n (k := 0) dX0_copyFrom_0 rfl rfl ?_
  refine a_aload_n (k := 1) dX0_copyFrom_1 rfl rfl ?_
  refine g_X0_24 rfl dX0_copyFrom_2 (St_ho hg o1) ?_
  refine a_aload_n (k := 1) dX0_copyFrom_5 rfl rfl ?_
  refine g_X0_28 rfl dX0_copyFrom_6 (St_ho hg o1) ?_
  refine a_aload_n (k := 1) dX0_copyFrom_9 rfl rfl ?_
  refine g_X0_31 rfl dX0_copyFrom_10 (St_ho hg o1) ?_
  refine a_aload_n (k := 1) dX0_copyFrom_13 rfl rfl ?_
  refine g_X0_34 rfl dX0_copyFrom_14 (St_ho hg o1) ?_
  refine a_aload_n (k := 1) dX0_copyFrom_17 rfl rfl ?_
  refine g_X0_37 rfl dX0_copyFrom_18 (St_ho hg o1) ?_
  refine k_X0_51 rfl dX0_copyFrom_21 (Nat.le_of_ble_eq_true rfl) rfl (Nat.le_of_ble_eq_true rfl) (Nat.le_of_ble_eq_true rfl) (St_ho hg o0) h (fun n2 μ3 h => ?_)
  refine a_aload_n (k := 0) dX0_copyFrom_24 rfl rfl ?_
  refine a_aload_n (k := 1) dX0_copyFrom_25 rfl rfl ?_
  refine g_X0_40 rfl dX0_copyFrom_26 (St_ho hg o1) (fun z4 => ?_)
  replace h := h z4
  obtain ⟨q5, h⟩ := h
  refine p_X0_40 rfl dX0_copyFrom_29 (St_ho hg o0) q5 (FX_put hg o0 rfl) ?_
  refine a_aload_n (k := 0) dX0_copyFrom_32 rfl rfl ?_
  refine a_aload_n (k := 1) dX0_copyFrom_33 rfl rfl ?_
  refine g_X0_44 rfl dX0_copyFrom_34 (St_ho hg o1) ?_
  refine p_X0_44 rfl dX0_copyFrom_37 (St_ho hg o0) (FX_put hg o0 rfl) ?_
  refine a_aload_n (k := 0) dX0_copyFrom_40 rfl rfl ?_
  refine gs_X0_20 rfl dX0_copyFrom_41 hg o0 ?_
  refine a_aload_n (k := 1) dX0_copyFrom_44 rfl rfl ?_
  refine gs_X0_20 rfl dX0_copyFrom_45 hg o1 ?_
  refine k_X0_55 rfl dX0_copyFrom_48 (Nat.le_of_ble_eq_true rfl) rfl (Nat.le_of_ble_eq_true rfl) (Nat.le_of_ble_eq_true rfl) (St_ho hg (st_0_1 o0)) h (fun n7 μ8 h => ?_)
  exact a_ret dX0_copyFrom_51 rfl (Nat.le_of_ble_eq_true rfl) (Nat.le_of_ble_eq_true rfl) h
theorem m_X0_standing {G : GT} (hg : gx G = FX) {n : Nat} {μ : Mem} {Q : Int → Nat → Mem → Prop} {v0 v1 : Int} (o0 : St v0 0 9) (h : ((¬ ((μ v0 2) = (μ v0 3)) → ((μ v0 7 = 0 ∨ μ v0 7 = 1) → (((μ v0 7) = 0 → ((v1 ≤ (μ v0 5) → (CI G Y_X0_lastNode [.inr v0] n μ (fun (x5 : Int) (n6 : Nat) (μ7 : Mem) => ((¬ (x5 = (μ7 v0 3)) → (Q 0 n6 μ7)) ∧ (x5 = (μ7 v0 3) → (Q 1 n6 μ7)))))) ∧ (¬ (v1 ≤ (μ v0 5)) → (Q 3 n μ)))) ∧ (¬ ((μ v0 7) = 0) → (Q 4 n μ))))) ∧ ((μ v0 2) = (μ v0 3) → (Q 2 n μ)))) : CI G Y_X0_standing [.inr v0, .inl v1] n μ Q := by
  refine e_I (by decide) (Nat.le_of_ble_eq_true rfl) ?_
  show Wa G Y_X0_standing (ZI G Y_X0_standing Q) 0 0 n μ 0 [(0, .inr v0), (1, .inl v1)] []
  refine a_aload_n (k := 0) dX0_standing_0 rfl rfl ?_
  refine g_X0_24 rfl dX0_standing_1 (St_ho hg o0) ?_
  refine a_aload_n (k := 0) dX0_standing_4 rfl rfl ?_
  refine g_X0_28 rfl dX0_standing_5 (St_ho hg o0) ?_
  refine a_icmp_ne (tgt := 13) dX0_standing_8 (by decide) (fun c1 => ?_) (fun c1 => ?_)
  · replace h := h.1 c1
    refine a_aload_n (k := 0) dX0_standing_13 rfl rfl ?_
    refine g_X0_40 rfl dX0_standing_14 (St_ho hg o0) (fun z2 => ?_)
    replace h := h z2
    refine a_if_eq (tgt := 22) dX0_standing_17 (by decide) (fun c3 => ?_) (fun c3 => ?_)
    · replace h := h.1 c3
      refine a_iload_n (k := 1) dX0_standing_22 rfl rfl ?_
      refine a_aload_n (k := 0) dX0_standing_23 rfl rfl ?_
      refine g_X0_34 rfl dX0_standing_24 (St_ho hg o0) ?_
      refine a_icmp_le (tgt := 32) dX0_standing_27 (by decide) (fun c4 => ?_) (fun c4 => ?_)
      · replace h := h.1 c4
        refine a_aload_n (k := 0) dX0_standing_32 rfl rfl ?_
        refine k_X0_59 rfl dX0_standing_33 (Nat.le_of_ble_eq_true rfl) rfl (Nat.le_of_ble_eq_true rfl) (Nat.le_of_ble_eq_true rfl) (St_ho hg o0) h (fun x5 n6 μ7 h => ?_)
        refine a_aload_n (k := 0) dX0_standing_36 rfl rfl ?_
        refine g_X0_28 rfl dX0_standing_37 (St_ho hg o0) ?_
        refine a_icmp_ne (tgt := 47) dX0_standing_40 (by decide) (fun c8 => ?_) (fun c8 => ?_)
        · replace h := h.1 c8
          refine a_iconst dX0_standing_47 (by decide) ?_
          exact a_iret dX0_standing_48 rfl (Nat.le_of_ble_eq_true rfl) (Nat.le_of_ble_eq_true rfl) h
        · replace h := h.2 c8
          refine a_iconst dX0_standing_43 (by decide) ?_
          refine a_goto (tgt := 48) dX0_standing_44 (by decide) ?_
          exact a_iret dX0_standing_48 rfl (Nat.le_of_ble_eq_true rfl) (Nat.le_of_ble_eq_true rfl) h
      · replace h := h.2 c4
        refine a_iconst dX0_standing_30 (by decide) ?_
        exact a_iret dX0_standing_31 rfl (Nat.le_of_ble_eq_true rfl) (Nat.le_of_ble_eq_true rfl) h
    · replace h := h.2 c3
      refine a_iconst dX0_standing_20 (by decide) ?_
      exact a_iret dX0_standing_21 rfl (Nat.le_of_ble_eq_true rfl) (Nat.le_of_ble_eq_true rfl) h
  · replace h := h.2 c1
    refine a_iconst dX0_standing_11 (by decide) ?_
    exact a_iret dX0_standing_12 rfl (Nat.le_of_ble_eq_true rfl) (Nat.le_of_ble_eq_true rfl) h
theorem m_X0_lastNode {G : GT} (hg : gx G = FX) {n : Nat} {μ : Mem} {Q : Int → Nat → Mem → Prop} {v0 : Int} (o0 : St v0 0 9) (h : ((¬ ((μ (v0 + 1) 2) = 0) → ((inR ((μ (v0 + 1) 2) - 1)) ∧ (CI G Y_X8_at [.inr (v0 + 1), .inl ((μ (v0 + 1) 2) - 1), .inl 0] n μ (fun (x3 : Int) (n4 : Nat) (μ5 : Mem) => (CR G Y_X3_contactAt [.inr 7, .inl x3] n4 μ5 (fun (x6 : Int) (n7 : Nat) (μ8 : Mem) => ((Co n7 x6) ∧ (Q (μ8 x6 1) n7 μ8)))))))) ∧ ((μ (v0 + 1) 2) = 0 → (Q (μ v0 2) n μ)))) : CI G Y_X0_lastNode [.inr v0] n μ Q := by
  refine e_I (by decide) (Nat.le_of_ble_eq_true rfl) ?_
  show Wa G Y_X0_lastNode (ZI G Y_X0_lastNode Q) 0 0 n μ 0 [(0, .inr v0)] []
  refine a_aload_n (k := 0) dX0_lastNode_0 rfl rfl ?_
  refine gs_X0_20 rfl dX0_lastNode_1 hg o0 ?_
  refine g_X0_63 rfl dX0_lastNode_4 (St_ho hg (st_0_1 o0)) ?_
  refine a_if_ne (tgt := 15) dX0_lastNode_7 (by decide) (fun c1 => ?_) (fun c1 => ?_)
  · replace h := h.1 c1
    refine a_aload_n (k := 0) dX0_lastNode_15 rfl rfl ?_
    refine gs_X0_9 rfl dX0_lastNode_16 hg o0 ?_
    refine a_aload_n (k := 0) dX0_lastNode_19 rfl rfl ?_
    refine gs_X0_20 rfl dX0_lastNode_20 hg o0 ?_
    refine a_aload_n (k := 0) dX0_lastNode_23 rfl rfl ?_
    refine gs_X0_20 rfl dX0_lastNode_24 hg o0 ?_
    refine g_X0_63 rfl dX0_lastNode_27 (St_ho hg (st_0_1 o0)) ?_
    refine a_iconst dX0_lastNode_30 (by decide) ?_
    obtain ⟨q2, h⟩ := h
    refine a_isub dX0_lastNode_31 q2 ?_
    refine a_iconst dX0_lastNode_32 (by decide) ?_
    refine k_X0_66 rfl dX0_lastNode_33 (Nat.le_of_ble_eq_true rfl) rfl (Nat.le_of_ble_eq_true rfl) (Nat.le_of_ble_eq_true rfl) (St_ho hg (st_0_1 o0)) h (fun x3 n4 μ5 h => ?_)
    refine k_X0_70 rfl dX0_lastNode_36 (Nat.le_of_ble_eq_true rfl) rfl (Nat.le_of_ble_eq_true rfl) (Nat.le_of_ble_eq_true rfl) (St_ho hg St_7) h (fun x6 n7 μ8 _ h => ?_)
    obtain ⟨q9, h⟩ := h
    refine g_X0_76 rfl dX0_lastNode_39 (fun _ => q9) ?_
    exact a_iret dX0_lastNode_42 rfl (Nat.le_of_ble_eq_true rfl) (Nat.le_of_ble_eq_true rfl) h
  · replace h := h.2 c1
    refine a_aload_n (k := 0) dX0_lastNode_10 rfl rfl ?_
    refine g_X0_24 rfl dX0_lastNode_11 (St_ho hg o0) ?_
    exact a_iret dX0_lastNode_14 rfl (Nat.le_of_ble_eq_true rfl) (Nat.le_of_ble_eq_true rfl) h
theorem m_X0_lastThere {G : GT} (hg : gx G = FX) {n : Nat} {μ : Mem} {Q : Int → Nat → Mem → Prop} {v0 : Int} (o0 : St v0 0 9) (h : ((inR ((μ (v0 + 1) 2) - 1)) ∧ (CI G Y_X8_at [.inr (v0 + 1), .inl ((μ (v0 + 1) 2) - 1), .inl 3] n μ (fun (x2 : Int) (n3 : Nat) (μ4 : Mem) => (Q x2 n3 μ4))))) : CI G Y_X0_lastThere [.inr v0] n μ Q := by
  refine e_I (by decide) (Nat.le_of_ble_eq_true rfl) ?_
  show Wa G Y_X0_lastThere (ZI G Y_X0_lastThere Q) 0 0 n μ 0 [(0, .inr v0)] []
  refine a_aload_n (k := 0) dX0_lastThere_0 rfl rfl ?_
  refine gs_X0_20 rfl dX0_lastThere_1 hg o0 ?_
  refine a_aload_n (k := 0) dX0_lastThere_4 rfl rfl ?_
  refine gs_X0_20 rfl dX0_lastThere_5 hg o0 ?_
  refine g_X0_63 rfl dX0_lastThere_8 (St_ho hg (st_0_1 o0)) ?_
  refine a_iconst dX0_lastThere_11 (by decide) ?_
  obtain ⟨q1, h⟩ := h
  refine a_isub dX0_lastThere_12 q1 ?_
  refine a_iconst dX0_lastThere_13 (by decide) ?_
  refine k_X0_66 rfl dX0_lastThere_14 (Nat.le_of_ble_eq_true rfl) rfl (Nat.le_of_ble_eq_true rfl) (Nat.le_of_ble_eq_true rfl) (St_ho hg (st_0_1 o0)) h (fun x2 n3 μ4 h => ?_)
  exact a_iret dX0_lastThere_17 rfl (Nat.le_of_ble_eq_true rfl) (Nat.le_of_ble_eq_true rfl) h
theorem m_X0_property {G : GT} (hg : gx G = FX) {n : Nat} {μ : Mem} {Q : Int → Nat → Mem → Prop} {v0 v1 v2 : Int} (o0 : St v0 0 9) (h : (((v1 < 0 ∨ 8 < v1) → (Q (-1) n μ)) ∧ (v1 = 0 → (CI G Y_X0_standing [.inr v0, .inl v2] n μ (fun (x4 : Int) (n5 : Nat) (μ6 : Mem) => (Q x4 n5 μ6)))) ∧ (v1 = 1 → (Q (μ v0 2) n μ)) ∧ (v1 = 2 → (CI G Y_X0_lastThere [.inr v0] n μ (fun (x7 : Int) (n8 : Nat) (μ9 : Mem) => (Q x7 n8 μ9)))) ∧ (v1 = 3 → (Q (μ (v0 + 1) 2) n μ)) ∧ (v1 = 4 → (Q (μ v0 6) n μ)) ∧ (v1 = 5 → (Q (μ v0 4) n μ)) ∧ (v1 = 6 → (Q (μ v0 5) n μ)) ∧ (v1 = 7 → (Q (μ v0 3) n μ)) ∧ (v1 = 8 → (CI G Y_X0_standing [.inr v0, .inl v2] n μ (fun (x10 : Int) (n11 : Nat) (μ12 : Mem) => ((¬ (x10 = 0) → (Q (-9) n11 μ12)) ∧ (x10 = 0 → (Q (μ12 v0 8) n11 μ12)))))))) : CI G Y_X0_property [.inr v0, .inl v1, .inl v2] n μ Q := by
  refine e_I (by decide) (Nat.le_of_ble_eq_true rfl) ?_
  show Wa G Y_X0_property (ZI G Y_X0_property Q) 0 0 n μ 0 [(0, .inr v0), (1, .inl v1), (2, .inl v2)] []
  refine a_iload_n (k := 1) dX0_property_0 rfl rfl ?_
  refine a_table (tgt := 114) dX0_property_1 (by decide) (fun c1 c2 => ?_) (fun c1 => ?_)
  · rcases (show v1 = 0 ∨ v1 = 1 ∨ v1 = 2 ∨ v1 = 3 ∨ v1 = 4 ∨ v1 = 5 ∨ v1 = 6 ∨ v1 = 7 ∨ v1 = 8 by omega) with e3 | e3 | e3 | e3 | e3 | e3 | e3 | e3 | e3
    · replace h := h.2.1 e3
      refine ⟨51, 52, by rw [e3]; rfl, by decide, ?_⟩
      refine a_aload_n (k := 0) dX0_property_52 rfl rfl ?_
      refine a_iload_n (k := 2) dX0_property_53 rfl rfl ?_
      refine k_X0_81 rfl dX0_property_54 (Nat.le_of_ble_eq_true rfl) rfl (Nat.le_of_ble_eq_true rfl) (Nat.le_of_ble_eq_true rfl) (St_ho hg o0) h (fun x4 n5 μ6 h => ?_)
      exact a_iret dX0_property_57 rfl (Nat.le_of_ble_eq_true rfl) (Nat.le_of_ble_eq_true rfl) h
    · replace h := h.2.2.1 e3
      refine ⟨57, 58, by rw [e3]; rfl, by decide, ?_⟩
      refine a_aload_n (k := 0) dX0_property_58 rfl rfl ?_
      refine g_X0_24 rfl dX0_property_59 (St_ho hg o0) ?_
      exact a_iret dX0_property_62 rfl (Nat.le_of_ble_eq_true rfl) (Nat.le_of_ble_eq_true rfl) h
    · replace h := h.2.2.2.1 e3
      refine ⟨62, 63, by rw [e3]; rfl, by decide, ?_⟩
      refine a_aload_n (k := 0) dX0_property_63 rfl rfl ?_
      refine k_X0_85 rfl dX0_property_64 (Nat.le_of_ble_eq_true rfl) rfl (Nat.le_of_ble_eq_true rfl) (Nat.le_of_ble_eq_true rfl) (St_ho hg o0) h (fun x7 n8 μ9 h => ?_)
      exact a_iret dX0_property_67 rfl (Nat.le_of_ble_eq_true rfl) (Nat.le_of_ble_eq_true rfl) h
    · replace h := h.2.2.2.2.1 e3
      refine ⟨67, 68, by rw [e3]; rfl, by decide, ?_⟩
      refine a_aload_n (k := 0) dX0_property_68 rfl rfl ?_
      refine gs_X0_20 rfl dX0_property_69 hg o0 ?_
      refine g_X0_63 rfl dX0_property_72 (St_ho hg (st_0_1 o0)) ?_
      exact a_iret dX0_property_75 rfl (Nat.le_of_ble_eq_true rfl) (Nat.le_of_ble_eq_true rfl) h
    · replace h := h.2.2.2.2.2.1 e3
      refine ⟨75, 76, by rw [e3]; rfl, by decide, ?_⟩
      refine a_aload_n (k := 0) dX0_property_76 rfl rfl ?_
      refine g_X0_37 rfl dX0_property_77 (St_ho hg o0) ?_
      exact a_iret dX0_property_80 rfl (Nat.le_of_ble_eq_true rfl) (Nat.le_of_ble_eq_true rfl) h
    · replace h := h.2.2.2.2.2.2.1 e3
      refine ⟨80, 81, by rw [e3]; rfl, by decide, ?_⟩
      refine a_aload_n (k := 0) dX0_property_81 rfl rfl ?_
      refine g_X0_31 rfl dX0_property_82 (St_ho hg o0) ?_
      exact a_iret dX0_property_85 rfl (Nat.le_of_ble_eq_true rfl) (Nat.le_of_ble_eq_true rfl) h
    · replace h := h.2.2.2.2.2.2.2.1 e3
      refine ⟨85, 86, by rw [e3]; rfl, by decide, ?_⟩
      refine a_aload_n (k := 0) dX0_property_86 rfl rfl ?_
      refine g_X0_34 rfl dX0_property_87 (St_ho hg o0) ?_
      exact a_iret dX0_property_90 rfl (Nat.le_of_ble_eq_true rfl) (Nat.le_of_ble_eq_true rfl) h
    · replace h := h.2.2.2.2.2.2.2.2.1 e3
      refine ⟨90, 91, by rw [e3]; rfl, by decide, ?_⟩
      refine a_aload_n (k := 0) dX0_property_91 rfl rfl ?_
      refine g_X0_28 rfl dX0_property_92 (St_ho hg o0) ?_
      exact a_iret dX0_property_95 rfl (Nat.le_of_ble_eq_true rfl) (Nat.le_of_ble_eq_true rfl) h
    · replace h := h.2.2.2.2.2.2.2.2.2 e3
      refine ⟨95, 96, by rw [e3]; rfl, by decide, ?_⟩
      refine a_aload_n (k := 0) dX0_property_96 rfl rfl ?_
      refine a_iload_n (k := 2) dX0_property_97 rfl rfl ?_
      refine k_X0_81 rfl dX0_property_98 (Nat.le_of_ble_eq_true rfl) rfl (Nat.le_of_ble_eq_true rfl) (Nat.le_of_ble_eq_true rfl) (St_ho hg o0) h (fun x10 n11 μ12 h => ?_)
      refine a_if_ne (tgt := 111) dX0_property_101 (by decide) (fun c13 => ?_) (fun c13 => ?_)
      · replace h := h.1 c13
        refine a_bipush dX0_property_111 (by decide) (by decide) ?_
        exact a_iret dX0_property_113 rfl (Nat.le_of_ble_eq_true rfl) (Nat.le_of_ble_eq_true rfl) h
      · replace h := h.2 c13
        refine a_aload_n (k := 0) dX0_property_104 rfl rfl ?_
        refine g_X0_44 rfl dX0_property_105 (St_ho hg o0) ?_
        refine a_goto (tgt := 113) dX0_property_108 (by decide) ?_
        exact a_iret dX0_property_113 rfl (Nat.le_of_ble_eq_true rfl) (Nat.le_of_ble_eq_true rfl) h
  · replace h := h.1 c1
    refine a_iconst dX0_property_114 (by decide) ?_
    exact a_iret dX0_property_115 rfl (Nat.le_of_ble_eq_true rfl) (Nat.le_of_ble_eq_true rfl) h
theorem m_X0_drop {G : GT} (hg : gx G = FX) {n : Nat} {μ : Mem} {Q : Nat → Mem → Prop} {v0 v1 : Int} (o0 : St v0 0 9) (h : (CV G Y_X0_giveUpHopsToCome [.inr v0, .inl v1] n (up μ v0 7 1) (fun (n2 : Nat) (μ3 : Mem) => (Q n2 μ3)))) : CV G Y_X0_drop [.inr v0, .inl v1] n μ Q := by
  refine e_V (by decide) (Nat.le_of_ble_eq_true rfl) ?_
  show Wa G Y_X0_drop (ZV G Y_X0_drop Q) 0 0 n μ 0 [(0, .inr v0), (1, .inl v1)] []
  refine a_aload_n (k := 0) dX0_drop_0 rfl rfl ?_
  refine a_iconst dX0_drop_1 (by decide) ?_
  refine p_X0_40 rfl dX0_drop_2 (St_ho hg o0) (by decide) (FX_put hg o0 rfl) ?_
  refine a_aload_n (k := 0) dX0_drop_5 rfl rfl ?_
  refine a_iload_n (k := 1) dX0_drop_6 rfl rfl ?_
  refine k_X0_88 rfl dX0_drop_7 (Nat.le_of_ble_eq_true rfl) rfl (Nat.le_of_ble_eq_true rfl) (Nat.le_of_ble_eq_true rfl) (St_ho hg o0) h (fun n2 μ3 h => ?_)
  exact a_ret dX0_drop_10 rfl (Nat.le_of_ble_eq_true rfl) (Nat.le_of_ble_eq_true rfl) h
theorem m_X0_giveUpHopsToCome {G : GT} (hg : gx G = FX) {n : Nat} {μ : Mem} {Q : Nat → Mem → Prop} {v0 v1 : Int} (o0 : St v0 0 9) (h : (CI G Y_X0_hopsOnTheirWay [.inr v0, .inl v1] n μ (fun (x1 : Int) (n2 : Nat) (μ3 : Mem) => (CV G Y_X8_cut [.inr (v0 + 1), .inl x1] n2 μ3 (fun (n5 : Nat) (μ6 : Mem) => (Q n5 μ6)))))) : CV G Y_X0_giveUpHopsToCome [.inr v0, .inl v1] n μ Q := by
  refine e_V (by decide) (Nat.le_of_ble_eq_true rfl) ?_
  show Wa G Y_X0_giveUpHopsToCome (ZV G Y_X0_giveUpHopsToCome Q) 0 0 n μ 0 [(0, .inr v0), (1, .inl v1)] []
  refine a_aload_n (k := 0) dX0_giveUpHopsToCome_0 rfl rfl ?_
  refine gs_X0_20 rfl dX0_giveUpHopsToCome_1 hg o0 ?_
  refine a_aload_n (k := 0) dX0_giveUpHopsToCome_4 rfl rfl ?_
  refine a_iload_n (k := 1) dX0_giveUpHopsToCome_5 rfl rfl ?_
  refine k_X0_91 rfl dX0_giveUpHopsToCome_6 (Nat.le_of_ble_eq_true rfl) rfl (Nat.le_of_ble_eq_true rfl) (Nat.le_of_ble_eq_true rfl) (St_ho hg o0) h (fun x1 n2 μ3 h => ?_)
  refine k_X0_47 rfl dX0_giveUpHopsToCome_9 (Nat.le_of_ble_eq_true rfl) rfl (Nat.le_of_ble_eq_true rfl) (Nat.le_of_ble_eq_true rfl) (St_ho hg (st_0_1 o0)) h (fun n5 μ6 h => ?_)
  exact a_ret dX0_giveUpHopsToCome_12 rfl (Nat.le_of_ble_eq_true rfl) (Nat.le_of_ble_eq_true rfl) h
theorem m_X0_hopsOnTheirWay {G : GT} (hg : gx G = FX) {n : Nat} {μ : Mem} {Q : Int → Nat → Mem → Prop} {v0 v1 : Int} (o0 : St v0 0 9) (h : (((μ (v0 + 1) 2) ≤ 0 → (Q 0 n μ)) ∧ (¬ ((μ (v0 + 1) 2) ≤ 0) → (CI G Y_X8_at [.inr (v0 + 1), .inl 0, .inl 1] n μ (fun (x2 : Int) (n3 : Nat) (μ4 : Mem) => ((v1 ≤ x2 → (Q 0 n3 μ4)) ∧ (¬ (v1 ≤ x2) → (Q 1 n3 μ4)))))))) : CI G Y_X0_hopsOnTheirWay [.inr v0, .inl v1] n μ Q := by
  refine e_I (by decide) (Nat.le_of_ble_eq_true rfl) ?_
  show Wa G Y_X0_hopsOnTheirWay (ZI G Y_X0_hopsOnTheirWay Q) 0 0 n μ 0 [(0, .inr v0), (1, .inl v1)] []
  refine a_aload_n (k := 0) dX0_hopsOnTheirWay_0 rfl rfl ?_
  refine gs_X0_20 rfl dX0_hopsOnTheirWay_1 hg o0 ?_
  refine g_X0_63 rfl dX0_hopsOnTheirWay_4 (St_ho hg (st_0_1 o0)) ?_
  refine a_if_le (tgt := 27) dX0_hopsOnTheirWay_7 (by decide) (fun c1 => ?_) (fun c1 => ?_)
  · replace h := h.1 c1
    refine a_iconst dX0_hopsOnTheirWay_27 (by decide) ?_
    exact a_iret dX0_hopsOnTheirWay_28 rfl (Nat.le_of_ble_eq_true rfl) (Nat.le_of_ble_eq_true rfl) h
  · replace h := h.2 c1
    refine a_aload_n (k := 0) dX0_hopsOnTheirWay_10 rfl rfl ?_
    refine gs_X0_20 rfl dX0_hopsOnTheirWay_11 hg o0 ?_
    refine a_iconst dX0_hopsOnTheirWay_14 (by decide) ?_
    refine a_iconst dX0_hopsOnTheirWay_15 (by decide) ?_
    refine k_X0_66 rfl dX0_hopsOnTheirWay_16 (Nat.le_of_ble_eq_true rfl) rfl (Nat.le_of_ble_eq_true rfl) (Nat.le_of_ble_eq_true rfl) (St_ho hg (st_0_1 o0)) h (fun x2 n3 μ4 h => ?_)
    refine a_iload_n (k := 1) dX0_hopsOnTheirWay_19 rfl rfl ?_
    refine a_icmp_ge (tgt := 27) dX0_hopsOnTheirWay_20 (by decide) (fun c5 => ?_) (fun c5 => ?_)
    · replace h := h.1 c5
      refine a_iconst dX0_hopsOnTheirWay_27 (by decide) ?_
      exact a_iret dX0_hopsOnTheirWay_28 rfl (Nat.le_of_ble_eq_true rfl) (Nat.le_of_ble_eq_true rfl) h
    · replace h := h.2 c5
      refine a_iconst dX0_hopsOnTheirWay_23 (by decide) ?_
      refine a_goto (tgt := 28) dX0_hopsOnTheirWay_24 (by decide) ?_
      exact a_iret dX0_hopsOnTheirWay_28 rfl (Nat.le_of_ble_eq_true rfl) (Nat.le_of_ble_eq_true rfl) h
abbrev B_X0_arrive_2 (G : GT) (Q : Nat → Mem → Prop) (n : Nat) (μ : Mem) (v0 : Int) (v1 : Int) (v2 : Int) : Prop := Wa G Y_X0_arrive (ZV G Y_X0_arrive Q) 0 0 n μ 2 [(0, .inr v0), (1, .inl v1), (2, .inl v2)] []
theorem m_X0_arrive {G : GT} (hg : gx G = FX) {n : Nat} {μ : Mem} {Q : Nat → Mem → Prop} {v0 v1 : Int} (o0 : St v0 0 9) (h : (B_X0_arrive_2 G Q n μ v0 v1 0)) : CV G Y_X0_arrive [.inr v0, .inl v1] n μ Q := by
  refine e_V (by decide) (Nat.le_of_ble_eq_true rfl) ?_
  show Wa G Y_X0_arrive (ZV G Y_X0_arrive Q) 0 0 n μ 0 [(0, .inr v0), (1, .inl v1)] []
  refine a_iconst dX0_arrive_0 (by decide) ?_
  refine b_istore_n (L' := [(0, .inr v0), (1, .inl v1), (2, .inl 0)]) [1, 2, 0] dX0_arrive_1 rfl (by decide) rfl ?_
  exact h
theorem b_X0_arrive_2 {G : GT} (hg : gx G = FX) {n : Nat} {μ : Mem} {Q : Nat → Mem → Prop} {v0 v1 v2 : Int} (o0 : St v0 0 9) (h : ((6 ≤ v2 → (Q n μ)) ∧ (¬ (6 ≤ v2) → (((μ (v0 + 1) 2) ≤ 0 → ((inR (v2 + 1)) ∧ (B_X0_arrive_2 G Q n μ v0 v1 (v2 + 1)))) ∧ (¬ ((μ (v0 + 1) 2) ≤ 0) → (CI G Y_X8_at [.inr (v0 + 1), .inl 0, .inl 3] n μ (fun (x4 : Int) (n5 : Nat) (μ6 : Mem) => ((v1 < x4 → ((inR (v2 + 1)) ∧ (B_X0_arrive_2 G Q n5 μ6 v0 v1 (v2 + 1)))) ∧ (¬ (v1 < x4) → (CI G Y_X8_at [.inr (v0 + 1), .inl 0, .inl 0] n5 μ6 (fun (x9 : Int) (n10 : Nat) (μ11 : Mem) => (CR G Y_X3_contactAt [.inr 7, .inl x9] n10 μ11 (fun (x12 : Int) (n13 : Nat) (μ14 : Mem) => ((Co n13 x12) ∧ (CV G Y_X8_removeFirstRow [.inr (v0 + 1)] n13 (up μ14 v0 2 (μ14 x12 1)) (fun (n17 : Nat) (μ18 : Mem) => ((inR (v2 + 1)) ∧ (B_X0_arrive_2 G Q n17 μ18 v0 v1 (v2 + 1))))))))))))))))))) : B_X0_arrive_2 G Q n μ v0 v1 v2 := by
  show Wa G Y_X0_arrive (ZV G Y_X0_arrive Q) 0 0 n μ 2 [(0, .inr v0), (1, .inl v1), (2, .inl v2)] []
  refine a_iload_n (k := 2) dX0_arrive_2 rfl rfl ?_
  refine a_bipush dX0_arrive_3 (by decide) (by decide) ?_
  refine a_icmp_ge (tgt := 67) dX0_arrive_5 (by decide) (fun c1 => ?_) (fun c1 => ?_)
  · replace h := h.1 c1
    exact a_ret dX0_arrive_67 rfl (Nat.le_of_ble_eq_true rfl) (Nat.le_of_ble_eq_true rfl) h
  · replace h := h.2 c1
    refine a_aload_n (k := 0) dX0_arrive_8 rfl rfl ?_
    refine gs_X0_20 rfl dX0_arrive_9 hg o0 ?_
    refine g_X0_63 rfl dX0_arrive_12 (St_ho hg (st_0_1 o0)) ?_
    refine a_if_le (tgt := 61) dX0_arrive_15 (by decide) (fun c2 => ?_) (fun c2 => ?_)
    · replace h := h.1 c2
      obtain ⟨q3, h⟩ := h
      refine b_iinc (L' := [(0, .inr v0), (1, .inl v1), (2, .inl (v2 + 1))]) (k := 2) [1, 2, 0] dX0_arrive_61 rfl q3 (by decide) rfl ?_
      refine a_goto (tgt := 2) dX0_arrive_64 (by decide) ?_
      exact h
    · replace h := h.2 c2
      refine a_aload_n (k := 0) dX0_arrive_18 rfl rfl ?_
      refine gs_X0_20 rfl dX0_arrive_19 hg o0 ?_
      refine a_iconst dX0_arrive_22 (by decide) ?_
      refine a_iconst dX0_arrive_23 (by decide) ?_
      refine k_X0_66 rfl dX0_arrive_24 (Nat.le_of_ble_eq_true rfl) rfl (Nat.le_of_ble_eq_true rfl) (Nat.le_of_ble_eq_true rfl) (St_ho hg (st_0_1 o0)) h (fun x4 n5 μ6 h => ?_)
      refine a_iload_n (k := 1) dX0_arrive_27 rfl rfl ?_
      refine a_icmp_gt (tgt := 61) dX0_arrive_28 (by decide) (fun c7 => ?_) (fun c7 => ?_)
      · replace h := h.1 c7
        obtain ⟨q8, h⟩ := h
        refine b_iinc (L' := [(0, .inr v0), (1, .inl v1), (2, .inl (v2 + 1))]) (k := 2) [1, 2, 0] dX0_arrive_61 rfl q8 (by decide) rfl ?_
        refine a_goto (tgt := 2) dX0_arrive_64 (by decide) ?_
        exact h
      · replace h := h.2 c7
        refine a_aload_n (k := 0) dX0_arrive_31 rfl rfl ?_
        refine a_aload_n (k := 0) dX0_arrive_32 rfl rfl ?_
        refine gs_X0_9 rfl dX0_arrive_33 hg o0 ?_
        refine a_aload_n (k := 0) dX0_arrive_36 rfl rfl ?_
        refine gs_X0_20 rfl dX0_arrive_37 hg o0 ?_
        refine a_iconst dX0_arrive_40 (by decide) ?_
        refine a_iconst dX0_arrive_41 (by decide) ?_
        refine k_X0_66 rfl dX0_arrive_42 (Nat.le_of_ble_eq_true rfl) rfl (Nat.le_of_ble_eq_true rfl) (Nat.le_of_ble_eq_true rfl) (St_ho hg (st_0_1 o0)) h (fun x9 n10 μ11 h => ?_)
        refine k_X0_70 rfl dX0_arrive_45 (Nat.le_of_ble_eq_true rfl) rfl (Nat.le_of_ble_eq_true rfl) (Nat.le_of_ble_eq_true rfl) (St_ho hg St_7) h (fun x12 n13 μ14 _ h => ?_)
        obtain ⟨q15, h⟩ := h
        refine g_X0_76 rfl dX0_arrive_48 (fun _ => q15) ?_
        refine p_X0_24 rfl dX0_arrive_51 (St_ho hg o0) (FX_put hg o0 rfl) ?_
        refine a_aload_n (k := 0) dX0_arrive_54 rfl rfl ?_
        refine gs_X0_20 rfl dX0_arrive_55 hg o0 ?_
        refine k_X0_94 rfl dX0_arrive_58 (Nat.le_of_ble_eq_true rfl) rfl (Nat.le_of_ble_eq_true rfl) (Nat.le_of_ble_eq_true rfl) (St_ho hg (st_0_1 o0)) h (fun n17 μ18 h => ?_)
        obtain ⟨q19, h⟩ := h
        refine b_iinc (L' := [(0, .inr v0), (1, .inl v1), (2, .inl (v2 + 1))]) (k := 2) [1, 2, 0] dX0_arrive_61 rfl q19 (by decide) rfl ?_
        refine a_goto (tgt := 2) dX0_arrive_64 (by decide) ?_
        exact h
abbrev B_X0_loses_2 (G : GT) (Q : Int → Nat → Mem → Prop) (n : Nat) (μ : Mem) (v0 : Int) (v1 : Int) (v2 : Int) (v3 : Int) : Prop := Wa G Y_X0_loses (ZI G Y_X0_loses Q) 0 0 n μ 2 [(0, .inr v0), (1, .inl v1), (2, .inl v2), (3, .inl v3)] []
abbrev B_X0_loses_56 (G : GT) (Q : Int → Nat → Mem → Prop) (n : Nat) (μ : Mem) (u0 : Int) (u1 : Int) : Prop := Wa G Y_X0_loses (ZI G Y_X0_loses Q) 0 0 n μ 56 [] [.inl u0, .inr u1]
theorem m_X0_loses {G : GT} (hg : gx G = FX) {n : Nat} {μ : Mem} {Q : Int → Nat → Mem → Prop} {v0 v1 v2 : Int} (o0 : St v0 0 9) (h : (B_X0_loses_2 G Q n μ v0 v1 v2 0)) : CI G Y_X0_loses [.inr v0, .inl v1, .inl v2] n μ Q := by
  refine e_I (by decide) (Nat.le_of_ble_eq_true rfl) ?_
  show Wa G Y_X0_loses (ZI G Y_X0_loses Q) 0 0 n μ 0 [(0, .inr v0), (1, .inl v1), (2, .inl v2)] []
  refine a_iconst dX0_loses_0 (by decide) ?_
  refine b_istore_n (L' := [(0, .inr v0), (1, .inl v1), (2, .inl v2), (3, .inl 0)]) [1, 2, 3, 0] dX0_loses_1 rfl (by decide) rfl ?_
  exact h
theorem b_X0_loses_2 {G : GT} (hg : gx G = FX) {n : Nat} {μ : Mem} {Q : Int → Nat → Mem → Prop} {v0 v1 v2 v3 : Int} (o0 : St v0 0 9) (h : (((μ (v0 + 1) 2) ≤ v3 → (Q 0 n μ)) ∧ (¬ ((μ (v0 + 1) 2) ≤ v3) → (CI G Y_X8_at [.inr (v0 + 1), .inl v3, .inl 0] n μ (fun (x2 : Int) (n3 : Nat) (μ4 : Mem) => ((¬ (x2 = v1) → ((inR (v3 + 1)) ∧ (B_X0_loses_2 G Q n3 μ4 v0 v1 v2 (v3 + 1)))) ∧ (x2 = v1 → (CI G Y_X8_at [.inr (v0 + 1), .inl v3, .inl 2] n3 μ4 (fun (x7 : Int) (n8 : Nat) (μ9 : Mem) => ((x7 ≤ v2 → ((inR (v3 + 1)) ∧ (B_X0_loses_2 G Q n8 μ9 v0 v1 v2 (v3 + 1)))) ∧ (¬ (x7 ≤ v2) → ((¬ (v3 = 0) → (CI G Y_X0_hopsOnTheirWay [.inr v0, .inl v2] n8 μ9 (fun (x13 : Int) (n14 : Nat) (μ15 : Mem) => (B_X0_loses_56 G Q n14 μ15 x13 (v0 + 1))))) ∧ (v3 = 0 → (B_X0_loses_56 G Q n8 μ9 0 (v0 + 1))))))))))))))) : B_X0_loses_2 G Q n μ v0 v1 v2 v3 := by
  show Wa G Y_X0_loses (ZI G Y_X0_loses Q) 0 0 n μ 2 [(0, .inr v0), (1, .inl v1), (2, .inl v2), (3, .inl v3)] []
  refine a_iload_n (k := 3) dX0_loses_2 rfl rfl ?_
  refine a_aload_n (k := 0) dX0_loses_3 rfl rfl ?_
  refine gs_X0_20 rfl dX0_loses_4 hg o0 ?_
  refine g_X0_63 rfl dX0_loses_7 (St_ho hg (st_0_1 o0)) ?_
  refine a_icmp_ge (tgt := 67) dX0_loses_10 (by decide) (fun c1 => ?_) (fun c1 => ?_)
  · replace h := h.1 c1
    refine a_iconst dX0_loses_67 (by decide) ?_
    exact a_zret dX0_loses_68 rfl (Nat.le_of_ble_eq_true rfl) (Nat.le_of_ble_eq_true rfl) (by decide) h
  · replace h := h.2 c1
    refine a_aload_n (k := 0) dX0_loses_13 rfl rfl ?_
    refine gs_X0_20 rfl dX0_loses_14 hg o0 ?_
    refine a_iload_n (k := 3) dX0_loses_17 rfl rfl ?_
    refine a_iconst dX0_loses_18 (by decide) ?_
    refine k_X0_66 rfl dX0_loses_19 (Nat.le_of_ble_eq_true rfl) rfl (Nat.le_of_ble_eq_true rfl) (Nat.le_of_ble_eq_true rfl) (St_ho hg (st_0_1 o0)) h (fun x2 n3 μ4 h => ?_)
    refine a_iload_n (k := 1) dX0_loses_22 rfl rfl ?_
    refine a_icmp_ne (tgt := 61) dX0_loses_23 (by decide) (fun c5 => ?_) (fun c5 => ?_)
    · replace h := h.1 c5
      obtain ⟨q6, h⟩ := h
      refine b_iinc (L' := [(0, .inr v0), (1, .inl v1), (2, .inl v2), (3, .inl (v3 + 1))]) (k := 3) [1, 2, 3, 0] dX0_loses_61 rfl q6 (by decide) rfl ?_
      refine a_goto (tgt := 2) dX0_loses_64 (by decide) ?_
      exact h
    · replace h := h.2 c5
      refine a_aload_n (k := 0) dX0_loses_26 rfl rfl ?_
      refine gs_X0_20 rfl dX0_loses_27 hg o0 ?_
      refine a_iload_n (k := 3) dX0_loses_30 rfl rfl ?_
      refine a_iconst dX0_loses_31 (by decide) ?_
      refine k_X0_66 rfl dX0_loses_32 (Nat.le_of_ble_eq_true rfl) rfl (Nat.le_of_ble_eq_true rfl) (Nat.le_of_ble_eq_true rfl) (St_ho hg (st_0_1 o0)) h (fun x7 n8 μ9 h => ?_)
      refine a_iload_n (k := 2) dX0_loses_35 rfl rfl ?_
      refine a_icmp_le (tgt := 61) dX0_loses_36 (by decide) (fun c10 => ?_) (fun c10 => ?_)
      · replace h := h.1 c10
        obtain ⟨q11, h⟩ := h
        refine b_iinc (L' := [(0, .inr v0), (1, .inl v1), (2, .inl v2), (3, .inl (v3 + 1))]) (k := 3) [1, 2, 3, 0] dX0_loses_61 rfl q11 (by decide) rfl ?_
        refine a_goto (tgt := 2) dX0_loses_64 (by decide) ?_
        exact h
      · replace h := h.2 c10
        refine a_aload_n (k := 0) dX0_loses_39 rfl rfl ?_
        refine gs_X0_20 rfl dX0_loses_40 hg o0 ?_
        refine a_iload_n (k := 3) dX0_loses_43 rfl rfl ?_
        refine a_if_ne (tgt := 51) dX0_loses_44 (by decide) (fun c12 => ?_) (fun c12 => ?_)
        · replace h := h.1 c12
          refine a_aload_n (k := 0) dX0_loses_51 rfl rfl ?_
          refine a_iload_n (k := 2) dX0_loses_52 rfl rfl ?_
          refine k_X0_91 rfl dX0_loses_53 (Nat.le_of_ble_eq_true rfl) rfl (Nat.le_of_ble_eq_true rfl) (Nat.le_of_ble_eq_true rfl) (St_ho hg o0) h (fun x13 n14 μ15 h => ?_)
          refine a_sub [] rfl ?_
          exact h
        · replace h := h.2 c12
          refine a_iconst dX0_loses_47 (by decide) ?_
          refine a_goto (tgt := 56) dX0_loses_48 (by decide) ?_
          refine a_sub [] rfl ?_
          exact h
theorem b_X0_loses_56 {G : GT} (hg : gx G = FX) {n : Nat} {μ : Mem} {Q : Int → Nat → Mem → Prop} {u0 u1 : Int} (ou1 : St u1 8 3) (h : (CV G Y_X8_cut [.inr u1, .inl u0] n μ (fun (n2 : Nat) (μ3 : Mem) => (Q 1 n2 μ3)))) : B_X0_loses_56 G Q n μ u0 u1 := by
  show Wa G Y_X0_loses (ZI G Y_X0_loses Q) 0 0 n μ 56 [] [.inl u0, .inr u1]
  refine k_X0_47 rfl dX0_loses_56 (Nat.le_of_ble_eq_true rfl) rfl (Nat.le_of_ble_eq_true rfl) (Nat.le_of_ble_eq_true rfl) (St_ho hg ou1) h (fun n2 μ3 h => ?_)
  refine a_iconst dX0_loses_59 (by decide) ?_
  exact a_zret dX0_loses_60 rfl (Nat.le_of_ble_eq_true rfl) (Nat.le_of_ble_eq_true rfl) (by decide) h
abbrev B_X0_takes_2 (G : GT) (Q : Int → Nat → Mem → Prop) (n : Nat) (μ : Mem) (v0 : Int) (v1 : Int) (v2 : Int) (v3 : Int) : Prop := Wa G Y_X0_takes (ZI G Y_X0_takes Q) 0 0 n μ 2 [(0, .inr v0), (1, .inl v1), (2, .inl v2), (3, .inl v3)] []
theorem m_X0_takes {G : GT} (hg : gx G = FX) {n : Nat} {μ : Mem} {Q : Int → Nat → Mem → Prop} {v0 v1 v2 : Int} (o0 : St v0 0 9) (h : (B_X0_takes_2 G Q n μ v0 v1 v2 0)) : CI G Y_X0_takes [.inr v0, .inl v1, .inl v2] n μ Q := by
  refine e_I (by decide) (Nat.le_of_ble_eq_true rfl) ?_
  show Wa G Y_X0_takes (ZI G Y_X0_takes Q) 0 0 n μ 0 [(0, .inr v0), (1, .inl v1), (2, .inl v2)] []
  refine a_iconst dX0_takes_0 (by decide) ?_
  refine b_istore_n (L' := [(0, .inr v0), (1, .inl v1), (2, .inl v2), (3, .inl 0)]) [1, 2, 3, 0] dX0_takes_1 rfl (by decide) rfl ?_
  exact h
theorem b_X0_takes_2 {G : GT} (hg : gx G = FX) {n : Nat} {μ : Mem} {Q : Int → Nat → Mem → Prop} {v0 v1 v2 v3 : Int} (o0 : St v0 0 9) (h : (((μ (v0 + 1) 2) ≤ v3 → (Q 0 n μ)) ∧ (¬ ((μ (v0 + 1) 2) ≤ v3) → (CI G Y_X8_at [.inr (v0 + 1), .inl v3, .inl 0] n μ (fun (x2 : Int) (n3 : Nat) (μ4 : Mem) => ((¬ (x2 = v1) → ((inR (v3 + 1)) ∧ (B_X0_takes_2 G Q n3 μ4 v0 v1 v2 (v3 + 1)))) ∧ (x2 = v1 → (CI G Y_X8_at [.inr (v0 + 1), .inl v3, .inl 1] n3 μ4 (fun (x7 : Int) (n8 : Nat) (μ9 : Mem) => ((v2 < x7 → ((inR (v3 + 1)) ∧ (B_X0_takes_2 G Q n8 μ9 v0 v1 v2 (v3 + 1)))) ∧ (¬ (v2 < x7) → (CI G Y_X8_at [.inr (v0 + 1), .inl v3, .inl 2] n8 μ9 (fun (x12 : Int) (n13 : Nat) (μ14 : Mem) => ((x12 ≤ v2 → ((inR (v3 + 1)) ∧ (B_X0_takes_2 G Q n13 μ14 v0 v1 v2 (v3 + 1)))) ∧ (¬ (x12 ≤ v2) → (Q 1 n13 μ14)))))))))))))))) : B_X0_takes_2 G Q n μ v0 v1 v2 v3 := by
  show Wa G Y_X0_takes (ZI G Y_X0_takes Q) 0 0 n μ 2 [(0, .inr v0), (1, .inl v1), (2, .inl v2), (3, .inl v3)] []
  refine a_iload_n (k := 3) dX0_takes_2 rfl rfl ?_
  refine a_aload_n (k := 0) dX0_takes_3 rfl rfl ?_
  refine gs_X0_20 rfl dX0_takes_4 hg o0 ?_
  refine g_X0_63 rfl dX0_takes_7 (St_ho hg (st_0_1 o0)) ?_
  refine a_icmp_ge (tgt := 60) dX0_takes_10 (by decide) (fun c1 => ?_) (fun c1 => ?_)
  · replace h := h.1 c1
    refine a_iconst dX0_takes_60 (by decide) ?_
    exact a_zret dX0_takes_61 rfl (Nat.le_of_ble_eq_true rfl) (Nat.le_of_ble_eq_true rfl) (by decide) h
  · replace h := h.2 c1
    refine a_aload_n (k := 0) dX0_takes_13 rfl rfl ?_
    refine gs_X0_20 rfl dX0_takes_14 hg o0 ?_
    refine a_iload_n (k := 3) dX0_takes_17 rfl rfl ?_
    refine a_iconst dX0_takes_18 (by decide) ?_
    refine k_X0_66 rfl dX0_takes_19 (Nat.le_of_ble_eq_true rfl) rfl (Nat.le_of_ble_eq_true rfl) (Nat.le_of_ble_eq_true rfl) (St_ho hg (st_0_1 o0)) h (fun x2 n3 μ4 h => ?_)
    refine a_iload_n (k := 1) dX0_takes_22 rfl rfl ?_
    refine a_icmp_ne (tgt := 54) dX0_takes_23 (by decide) (fun c5 => ?_) (fun c5 => ?_)
    · replace h := h.1 c5
      obtain ⟨q6, h⟩ := h
      refine b_iinc (L' := [(0, .inr v0), (1, .inl v1), (2, .inl v2), (3, .inl (v3 + 1))]) (k := 3) [1, 2, 3, 0] dX0_takes_54 rfl q6 (by decide) rfl ?_
      refine a_goto (tgt := 2) dX0_takes_57 (by decide) ?_
      exact h
    · replace h := h.2 c5
      refine a_aload_n (k := 0) dX0_takes_26 rfl rfl ?_
      refine gs_X0_20 rfl dX0_takes_27 hg o0 ?_
      refine a_iload_n (k := 3) dX0_takes_30 rfl rfl ?_
      refine a_iconst dX0_takes_31 (by decide) ?_
      refine k_X0_66 rfl dX0_takes_32 (Nat.le_of_ble_eq_true rfl) rfl (Nat.le_of_ble_eq_true rfl) (Nat.le_of_ble_eq_true rfl) (St_ho hg (st_0_1 o0)) h (fun x7 n8 μ9 h => ?_)
      refine a_iload_n (k := 2) dX0_takes_35 rfl rfl ?_
      refine a_icmp_gt (tgt := 54) dX0_takes_36 (by decide) (fun c10 => ?_) (fun c10 => ?_)
      · replace h := h.1 c10
        obtain ⟨q11, h⟩ := h
        refine b_iinc (L' := [(0, .inr v0), (1, .inl v1), (2, .inl v2), (3, .inl (v3 + 1))]) (k := 3) [1, 2, 3, 0] dX0_takes_54 rfl q11 (by decide) rfl ?_
        refine a_goto (tgt := 2) dX0_takes_57 (by decide) ?_
        exact h
      · replace h := h.2 c10
        refine a_iload_n (k := 2) dX0_takes_39 rfl rfl ?_
        refine a_aload_n (k := 0) dX0_takes_40 rfl rfl ?_
        refine gs_X0_20 rfl dX0_takes_41 hg o0 ?_
        refine a_iload_n (k := 3) dX0_takes_44 rfl rfl ?_
        refine a_iconst dX0_takes_45 (by decide) ?_
        refine k_X0_66 rfl dX0_takes_46 (Nat.le_of_ble_eq_true rfl) rfl (Nat.le_of_ble_eq_true rfl) (Nat.le_of_ble_eq_true rfl) (St_ho hg (st_0_1 o0)) h (fun x12 n13 μ14 h => ?_)
        refine a_icmp_ge (tgt := 54) dX0_takes_49 (by decide) (fun c15 => ?_) (fun c15 => ?_)
        · replace h := h.1 c15
          obtain ⟨q16, h⟩ := h
          refine b_iinc (L' := [(0, .inr v0), (1, .inl v1), (2, .inl v2), (3, .inl (v3 + 1))]) (k := 3) [1, 2, 3, 0] dX0_takes_54 rfl q16 (by decide) rfl ?_
          refine a_goto (tgt := 2) dX0_takes_57 (by decide) ?_
          exact h
        · replace h := h.2 c15
          refine a_iconst dX0_takes_52 (by decide) ?_
          exact a_zret dX0_takes_53 rfl (Nat.le_of_ble_eq_true rfl) (Nat.le_of_ble_eq_true rfl) (by decide) h
abbrev B_X0_standsInTheWayOf_6 (G : GT) (Q : Int → Nat → Mem → Prop) (n : Nat) (μ : Mem) (v0 : Int) (v1 : Int) (v3 : Int) : Prop := Wa G Y_X0_standsInTheWayOf (ZI G Y_X0_standsInTheWayOf Q) 0 0 n μ 6 [(0, .inr v0), (1, .inr v1), (3, .inl v3)] []
abbrev B_X0_standsInTheWayOf_20 (G : GT) (Q : Int → Nat → Mem → Prop) (n : Nat) (μ : Mem) (v0 : Int) (v1 : Int) (v3 : Int) (v4 : Int) : Prop := Wa G Y_X0_standsInTheWayOf (ZI G Y_X0_standsInTheWayOf Q) 0 0 n μ 20 [(0, .inr v0), (1, .inr v1), (3, .inl v3), (4, .inl v4)] []
theorem m_X0_standsInTheWayOf {G : GT} (hg : gx G = FX) {n : Nat} {μ : Mem} {Q : Int → Nat → Mem → Prop} {v0 v1 v2 : Int} (o0 : St v0 0 9) (o1 : St v1 0 9) (h : (CI G Y_X0_hopsOnTheirWay [.inr v0, .inl v2] n μ (fun (x1 : Int) (n2 : Nat) (μ3 : Mem) => (B_X0_standsInTheWayOf_6 G Q n2 μ3 v0 v1 x1)))) : CI G Y_X0_standsInTheWayOf [.inr v0, .inr v1, .inl v2] n μ Q := by
  refine e_I (by decide) (Nat.le_of_ble_eq_true rfl) ?_
  show Wa G Y_X0_standsInTheWayOf (ZI G Y_X0_standsInTheWayOf Q) 0 0 n μ 0 [(0, .inr v0), (1, .inr v1), (2, .inl v2)] []
  refine a_aload_n (k := 0) dX0_standsInTheWayOf_0 rfl rfl ?_
  refine a_iload_n (k := 2) dX0_standsInTheWayOf_1 rfl rfl ?_
  refine k_X0_91 rfl dX0_standsInTheWayOf_2 (Nat.le_of_ble_eq_true rfl) rfl (Nat.le_of_ble_eq_true rfl) (Nat.le_of_ble_eq_true rfl) (St_ho hg o0) h (fun x1 n2 μ3 h => ?_)
  refine b_istore_n (L' := [(0, .inr v0), (1, .inr v1), (2, .inl v2), (3, .inl x1)]) [1, 2, 3, 0] dX0_standsInTheWayOf_5 rfl (by decide) rfl ?_
  refine a_sub [0, 1, 3] rfl ?_
  exact h
theorem b_X0_standsInTheWayOf_6 {G : GT} (hg : gx G = FX) {n : Nat} {μ : Mem} {Q : Int → Nat → Mem → Prop} {v0 v1 v3 : Int} (o0 : St v0 0 9) (o1 : St v1 0 9) (h : (((μ (v0 + 1) 2) ≤ v3 → (Q 0 n μ)) ∧ (¬ ((μ (v0 + 1) 2) ≤ v3) → (B_X0_standsInTheWayOf_20 G Q n μ v0 v1 v3 0)))) : B_X0_standsInTheWayOf_6 G Q n μ v0 v1 v3 := by
  show Wa G Y_X0_standsInTheWayOf (ZI G Y_X0_standsInTheWayOf Q) 0 0 n μ 6 [(0, .inr v0), (1, .inr v1), (3, .inl v3)] []
  refine a_iload_n (k := 2) dX0_standsInTheWayOf_6 rfl rfl ?_
  refine a_aload_n (k := 0) dX0_standsInTheWayOf_7 rfl rfl ?_
  refine gs_X0_20 rfl dX0_standsInTheWayOf_8 hg o0 ?_
  refine g_X0_63 rfl dX0_standsInTheWayOf_11 (St_ho hg (st_0_1 o0)) ?_
  refine a_icmp_ge (tgt := 112) dX0_standsInTheWayOf_14 (by decide) (fun c1 => ?_) (fun c1 => ?_)
  · replace h := h.1 c1
    refine a_iconst dX0_standsInTheWayOf_112 (by decide) ?_
    exact a_zret dX0_standsInTheWayOf_113 rfl (Nat.le_of_ble_eq_true rfl) (Nat.le_of_ble_eq_true rfl) (by decide) h
  · replace h := h.2 c1
    refine a_iconst dX0_standsInTheWayOf_17 (by decide) ?_
    refine b_istore (L' := [(0, .inr v0), (1, .inr v1), (3, .inl v3), (4, .inl 0)]) [1, 2, 3, 0] dX0_standsInTheWayOf_18 (by decide) rfl ?_
    exact h
theorem b_X0_standsInTheWayOf_20 {G : GT} (hg : gx G = FX) {n : Nat} {μ : Mem} {Q : Int → Nat → Mem → Prop} {v0 v1 v3 v4 : Int} (o0 : St v0 0 9) (o1 : St v1 0 9) (h : (((μ (v1 + 1) 2) ≤ v4 → ((inR (v3 + 1)) ∧ (B_X0_standsInTheWayOf_6 G Q n μ v0 v1 (v3 + 1)))) ∧ (¬ ((μ (v1 + 1) 2) ≤ v4) → (CI G Y_X8_at [.inr (v0 + 1), .inl v3, .inl 0] n μ (fun (x3 : Int) (n4 : Nat) (μ5 : Mem) => (CI G Y_X8_at [.inr (v1 + 1), .inl v4, .inl 0] n4 μ5 (fun (x6 : Int) (n7 : Nat) (μ8 : Mem) => ((¬ (x3 = x6) → ((inR (v4 + 1)) ∧ (B_X0_standsInTheWayOf_20 G Q n7 μ8 v0 v1 v3 (v4 + 1)))) ∧ (x3 = x6 → (CI G Y_X8_at [.inr (v0 + 1), .inl v3, .inl 1] n7 μ8 (fun (x11 : Int) (n12 : Nat) (μ13 : Mem) => (CI G Y_X8_at [.inr (v1 + 1), .inl v4, .inl 2] n12 μ13 (fun (x14 : Int) (n15 : Nat) (μ16 : Mem) => ((x14 ≤ x11 → ((inR (v4 + 1)) ∧ (B_X0_standsInTheWayOf_20 G Q n15 μ16 v0 v1 v3 (v4 + 1)))) ∧ (¬ (x14 ≤ x11) → (CI G Y_X8_at [.inr (v1 + 1), .inl v4, .inl 1] n15 μ16 (fun (x19 : Int) (n20 : Nat) (μ21 : Mem) => (CI G Y_X8_at [.inr (v0 + 1), .inl v3, .inl 2] n20 μ21 (fun (x22 : Int) (n23 : Nat) (μ24 : Mem) => ((x22 ≤ x19 → ((inR (v4 + 1)) ∧ (B_X0_standsInTheWayOf_20 G Q n23 μ24 v0 v1 v3 (v4 + 1)))) ∧ (¬ (x22 ≤ x19) → (Q 1 n23 μ24)))))))))))))))))))))) : B_X0_standsInTheWayOf_20 G Q n μ v0 v1 v3 v4 := by
  show Wa G Y_X0_standsInTheWayOf (ZI G Y_X0_standsInTheWayOf Q) 0 0 n μ 20 [(0, .inr v0), (1, .inr v1), (3, .inl v3), (4, .inl v4)] []
  refine a_iload (k := 3) dX0_standsInTheWayOf_20 rfl ?_
  refine a_aload_n (k := 1) dX0_standsInTheWayOf_22 rfl rfl ?_
  refine gs_X0_20 rfl dX0_standsInTheWayOf_23 hg o1 ?_
  refine g_X0_63 rfl dX0_standsInTheWayOf_26 (St_ho hg (st_0_1 o1)) ?_
  refine a_icmp_ge (tgt := 106) dX0_standsInTheWayOf_29 (by decide) (fun c1 => ?_) (fun c1 => ?_)
  · replace h := h.1 c1
    obtain ⟨q2, h⟩ := h
    refine b_iinc (L' := [(0, .inr v0), (1, .inr v1), (3, .inl (v3 + 1)), (4, .inl v4)]) (k := 2) [1, 2, 0, 3] dX0_standsInTheWayOf_106 rfl q2 (by decide) rfl ?_
    refine a_goto (tgt := 6) dX0_standsInTheWayOf_109 (by decide) ?_
    refine a_sub [0, 1, 2] rfl ?_
    exact h
  · replace h := h.2 c1
    refine a_aload_n (k := 0) dX0_standsInTheWayOf_32 rfl rfl ?_
    refine gs_X0_20 rfl dX0_standsInTheWayOf_33 hg o0 ?_
    refine a_iload_n (k := 2) dX0_standsInTheWayOf_36 rfl rfl ?_
    refine a_iconst dX0_standsInTheWayOf_37 (by decide) ?_
    refine k_X0_66 rfl dX0_standsInTheWayOf_38 (Nat.le_of_ble_eq_true rfl) rfl (Nat.le_of_ble_eq_true rfl) (Nat.le_of_ble_eq_true rfl) (St_ho hg (st_0_1 o0)) h (fun x3 n4 μ5 h => ?_)
    refine a_aload_n (k := 1) dX0_standsInTheWayOf_41 rfl rfl ?_
    refine gs_X0_20 rfl dX0_standsInTheWayOf_42 hg o1 ?_
    refine a_iload (k := 3) dX0_standsInTheWayOf_45 rfl ?_
    refine a_iconst dX0_standsInTheWayOf_47 (by decide) ?_
    refine k_X0_66 rfl dX0_standsInTheWayOf_48 (Nat.le_of_ble_eq_true rfl) rfl (Nat.le_of_ble_eq_true rfl) (Nat.le_of_ble_eq_true rfl) (St_ho hg (st_0_1 o1)) h (fun x6 n7 μ8 h => ?_)
    refine a_icmp_ne (tgt := 100) dX0_standsInTheWayOf_51 (by decide) (fun c9 => ?_) (fun c9 => ?_)
    · replace h := h.1 c9
      obtain ⟨q10, h⟩ := h
      refine b_iinc (L' := [(0, .inr v0), (1, .inr v1), (3, .inl v3), (4, .inl (v4 + 1))]) (k := 3) [1, 2, 3, 0] dX0_standsInTheWayOf_100 rfl q10 (by decide) rfl ?_
      refine a_goto (tgt := 20) dX0_standsInTheWayOf_103 (by decide) ?_
      exact h
    · replace h := h.2 c9
      refine a_aload_n (k := 0) dX0_standsInTheWayOf_54 rfl rfl ?_
      refine gs_X0_20 rfl dX0_standsInTheWayOf_55 hg o0 ?_
      refine a_iload_n (k := 2) dX0_standsInTheWayOf_58 rfl rfl ?_
      refine a_iconst dX0_standsInTheWayOf_59 (by decide) ?_
      refine k_X0_66 rfl dX0_standsInTheWayOf_60 (Nat.le_of_ble_eq_true rfl) rfl (Nat.le_of_ble_eq_true rfl) (Nat.le_of_ble_eq_true rfl) (St_ho hg (st_0_1 o0)) h (fun x11 n12 μ13 h => ?_)
      refine a_aload_n (k := 1) dX0_standsInTheWayOf_63 rfl rfl ?_
      refine gs_X0_20 rfl dX0_standsInTheWayOf_64 hg o1 ?_
      refine a_iload (k := 3) dX0_standsInTheWayOf_67 rfl ?_
      refine a_iconst dX0_standsInTheWayOf_69 (by decide) ?_
      refine k_X0_66 rfl dX0_standsInTheWayOf_70 (Nat.le_of_ble_eq_true rfl) rfl (Nat.le_of_ble_eq_true rfl) (Nat.le_of_ble_eq_true rfl) (St_ho hg (st_0_1 o1)) h (fun x14 n15 μ16 h => ?_)
      refine a_icmp_ge (tgt := 100) dX0_standsInTheWayOf_73 (by decide) (fun c17 => ?_) (fun c17 => ?_)
      · replace h := h.1 c17
        obtain ⟨q18, h⟩ := h
        refine b_iinc (L' := [(0, .inr v0), (1, .inr v1), (3, .inl v3), (4, .inl (v4 + 1))]) (k := 3) [1, 2, 3, 0] dX0_standsInTheWayOf_100 rfl q18 (by decide) rfl ?_
        refine a_goto (tgt := 20) dX0_standsInTheWayOf_103 (by decide) ?_
        exact h
      · replace h := h.2 c17
        refine a_aload_n (k := 1) dX0_standsInTheWayOf_76 rfl rfl ?_
        refine gs_X0_20 rfl dX0_standsInTheWayOf_77 hg o1 ?_
        refine a_iload (k := 3) dX0_standsInTheWayOf_80 rfl ?_
        refine a_iconst dX0_standsInTheWayOf_82 (by decide) ?_
        refine k_X0_66 rfl dX0_standsInTheWayOf_83 (Nat.le_of_ble_eq_true rfl) rfl (Nat.le_of_ble_eq_true rfl) (Nat.le_of_ble_eq_true rfl) (St_ho hg (st_0_1 o1)) h (fun x19 n20 μ21 h => ?_)
        refine a_aload_n (k := 0) dX0_standsInTheWayOf_86 rfl rfl ?_
        refine gs_X0_20 rfl dX0_standsInTheWayOf_87 hg o0 ?_
        refine a_iload_n (k := 2) dX0_standsInTheWayOf_90 rfl rfl ?_
        refine a_iconst dX0_standsInTheWayOf_91 (by decide) ?_
        refine k_X0_66 rfl dX0_standsInTheWayOf_92 (Nat.le_of_ble_eq_true rfl) rfl (Nat.le_of_ble_eq_true rfl) (Nat.le_of_ble_eq_true rfl) (St_ho hg (st_0_1 o0)) h (fun x22 n23 μ24 h => ?_)
        refine a_icmp_ge (tgt := 100) dX0_standsInTheWayOf_95 (by decide) (fun c25 => ?_) (fun c25 => ?_)
        · replace h := h.1 c25
          obtain ⟨q26, h⟩ := h
          refine b_iinc (L' := [(0, .inr v0), (1, .inr v1), (3, .inl v3), (4, .inl (v4 + 1))]) (k := 3) [1, 2, 3, 0] dX0_standsInTheWayOf_100 rfl q26 (by decide) rfl ?_
          refine a_goto (tgt := 20) dX0_standsInTheWayOf_103 (by decide) ?_
          exact h
        · replace h := h.2 c25
          refine a_iconst dX0_standsInTheWayOf_98 (by decide) ?_
          exact a_zret dX0_standsInTheWayOf_99 rfl (Nat.le_of_ble_eq_true rfl) (Nat.le_of_ble_eq_true rfl) (by decide) h
theorem m_X7_reset {G : GT} (hg : gx G = FX) {n : Nat} {μ : Mem} {Q : Nat → Mem → Prop} {v0 : Int} (o0 : St v0 7 5) (h : (Q n (up (up (up μ v0 2 0) v0 3 0) v0 4 0))) : CV G Y_X7_reset [.inr v0] n μ Q := by
  refine e_V (by decide) (Nat.le_of_ble_eq_true rfl) ?_
  show Wa G Y_X7_reset (ZV G Y_X7_reset Q) 0 0 n μ 0 [(0, .inr v0)] []
  refine a_aload_n (k := 0) dX7_reset_0 rfl rfl ?_
  refine a_iconst dX7_reset_1 (by decide) ?_
  refine p_X7_24 rfl dX7_reset_2 (St_ho hg o0) (FX_put hg o0 rfl) ?_
  refine a_aload_n (k := 0) dX7_reset_5 rfl rfl ?_
  refine a_iconst dX7_reset_6 (by decide) ?_
  refine p_X7_28 rfl dX7_reset_7 (St_ho hg o0) (FX_put hg o0 rfl) ?_
  refine a_aload_n (k := 0) dX7_reset_10 rfl rfl ?_
  refine a_iconst dX7_reset_11 (by decide) ?_
  refine p_X7_31 rfl dX7_reset_12 (St_ho hg o0) (FX_put hg o0 rfl) ?_
  exact a_ret dX7_reset_15 rfl (Nat.le_of_ble_eq_true rfl) (Nat.le_of_ble_eq_true rfl) h
abbrev B_X7_copyFrom_26 (G : GT) (Q : Nat → Mem → Prop) (n : Nat) (μ : Mem) (v0 : Int) (v1 : Int) (v2 : Int) : Prop := Wa G Y_X7_copyFrom (ZV G Y_X7_copyFrom Q) 0 0 n μ 26 [(0, .inr v0), (1, .inr v1), (2, .inl v2)] []
theorem m_X7_copyFrom {G : GT} (hg : gx G = FX) {n : Nat} {μ : Mem} {Q : Nat → Mem → Prop} {v0 v1 : Int} (o0 : St v0 7 5) (o1 : St v1 7 5) (h : (B_X7_copyFrom_26 G Q n (up (up (up μ v0 2 (μ v1 2)) v0 3 ((up μ v0 2 (μ v1 2)) v1 3)) v0 4 ((up (up μ v0 2 (μ v1 2)) v0 3 ((up μ v0 2 (μ v1 2)) v1 3)) v1 4)) v0 v1 0)) : CV G Y_X7_copyFrom [.inr v0, .inr v1] n μ Q := by
  refine e_V (by decide) (Nat.le_of_ble_eq_true rfl) ?_
  show Wa G Y_X7_copyFrom (ZV G Y_X7_copyFrom Q) 0 0 n μ 0 [(0, .inr v0), (1, .inr v1)] []
  refine a_aload_n (k := 0) dX7_copyFrom_0 rfl rfl ?_
  refine a_aload_n (k := 1) dX7_copyFrom_1 rfl rfl ?_
  refine g_X7_24 rfl dX7_copyFrom_2 (St_ho hg o1) ?_
  refine p_X7_24 rfl dX7_copyFrom_5 (St_ho hg o0) (FX_put hg o0 rfl) ?_
  refine a_aload_n (k := 0) dX7_copyFrom_8 rfl rfl ?_
  refine a_aload_n (k := 1) dX7_copyFrom_9 rfl rfl ?_
  refine g_X7_28 rfl dX7_copyFrom_10 (St_ho hg o1) ?_
  refine p_X7_28 rfl dX7_copyFrom_13 (St_ho hg o0) (FX_put hg o0 rfl) ?_
  refine a_aload_n (k := 0) dX7_copyFrom_16 rfl rfl ?_
  refine a_aload_n (k := 1) dX7_copyFrom_17 rfl rfl ?_
  refine g_X7_31 rfl dX7_copyFrom_18 (St_ho hg o1) ?_
  refine p_X7_31 rfl dX7_copyFrom_21 (St_ho hg o0) (FX_put hg o0 rfl) ?_
  refine a_iconst dX7_copyFrom_24 (by decide) ?_
  refine b_istore_n (L' := [(0, .inr v0), (1, .inr v1), (2, .inl 0)]) [1, 2, 0] dX7_copyFrom_25 rfl (by decide) rfl ?_
  exact h
theorem b_X7_copyFrom_26 {G : GT} (hg : gx G = FX) {n : Nat} {μ : Mem} {Q : Nat → Mem → Prop} {v0 v1 v2 : Int} (o0 : St v0 7 5) (o1 : St v1 7 5) (h : (((μ v0 2) ≤ v2 → (Q n μ)) ∧ (¬ ((μ v0 2) ≤ v2) → (CR G Y_X7_bundleAt [.inr v0, .inl v2] n μ (fun (x2 : Int) (n3 : Nat) (μ4 : Mem) => (St x2 0 9) ∧ (CR G Y_X7_bundleAt [.inr v1, .inl v2] n3 μ4 (fun (x6 : Int) (n7 : Nat) (μ8 : Mem) => (St x6 0 9) ∧ (CV G Y_X0_copyFrom [.inr x2, .inr x6] n7 μ8 (fun (n11 : Nat) (μ12 : Mem) => ((inR (v2 + 1)) ∧ (B_X7_copyFrom_26 G Q n11 μ12 v0 v1 (v2 + 1)))))))))))) : B_X7_copyFrom_26 G Q n μ v0 v1 v2 := by
  show Wa G Y_X7_copyFrom (ZV G Y_X7_copyFrom Q) 0 0 n μ 26 [(0, .inr v0), (1, .inr v1), (2, .inl v2)] []
  refine a_iload_n (k := 2) dX7_copyFrom_26 rfl rfl ?_
  refine a_aload_n (k := 0) dX7_copyFrom_27 rfl rfl ?_
  refine g_X7_24 rfl dX7_copyFrom_28 (St_ho hg o0) ?_
  refine a_icmp_ge (tgt := 53) dX7_copyFrom_31 (by decide) (fun c1 => ?_) (fun c1 => ?_)
  · replace h := h.1 c1
    exact a_ret dX7_copyFrom_53 rfl (Nat.le_of_ble_eq_true rfl) (Nat.le_of_ble_eq_true rfl) h
  · replace h := h.2 c1
    refine a_aload_n (k := 0) dX7_copyFrom_34 rfl rfl ?_
    refine a_iload_n (k := 2) dX7_copyFrom_35 rfl rfl ?_
    refine k_X7_34 rfl dX7_copyFrom_36 (Nat.le_of_ble_eq_true rfl) rfl (Nat.le_of_ble_eq_true rfl) (Nat.le_of_ble_eq_true rfl) (St_ho hg o0) h (fun x2 n3 μ4 _ h => ?_)
    obtain ⟨q5, h⟩ := h
    refine a_aload_n (k := 1) dX7_copyFrom_39 rfl rfl ?_
    refine a_iload_n (k := 2) dX7_copyFrom_40 rfl rfl ?_
    refine k_X7_34 rfl dX7_copyFrom_41 (Nat.le_of_ble_eq_true rfl) rfl (Nat.le_of_ble_eq_true rfl) (Nat.le_of_ble_eq_true rfl) (St_ho hg o1) h (fun x6 n7 μ8 _ h => ?_)
    obtain ⟨q9, h⟩ := h
    refine k_X7_38 rfl dX7_copyFrom_44 (Nat.le_of_ble_eq_true rfl) rfl (Nat.le_of_ble_eq_true rfl) (Nat.le_of_ble_eq_true rfl) (St_ho hg q5) h (fun n11 μ12 h => ?_)
    obtain ⟨q13, h⟩ := h
    refine b_iinc (L' := [(0, .inr v0), (1, .inr v1), (2, .inl (v2 + 1))]) (k := 2) [1, 2, 0] dX7_copyFrom_47 rfl q13 (by decide) rfl ?_
    refine a_goto (tgt := 26) dX7_copyFrom_50 (by decide) ?_
    exact h
theorem m_X7_hasBundle {G : GT} (hg : gx G = FX) {n : Nat} {μ : Mem} {Q : Int → Nat → Mem → Prop} {v0 v1 : Int} (o0 : St v0 7 5) (h : ((v1 < 0 → (Q 0 n μ)) ∧ (¬ (v1 < 0) → (((μ v0 2) ≤ v1 → (Q 0 n μ)) ∧ (¬ ((μ v0 2) ≤ v1) → (Q 1 n μ)))))) : CI G Y_X7_hasBundle [.inr v0, .inl v1] n μ Q := by
  refine e_I (by decide) (Nat.le_of_ble_eq_true rfl) ?_
  show Wa G Y_X7_hasBundle (ZI G Y_X7_hasBundle Q) 0 0 n μ 0 [(0, .inr v0), (1, .inl v1)] []
  refine a_iload_n (k := 1) dX7_hasBundle_0 rfl rfl ?_
  refine a_if_lt (tgt := 16) dX7_hasBundle_1 (by decide) (fun c1 => ?_) (fun c1 => ?_)
  · replace h := h.1 c1
    refine a_iconst dX7_hasBundle_16 (by decide) ?_
    exact a_zret dX7_hasBundle_17 rfl (Nat.le_of_ble_eq_true rfl) (Nat.le_of_ble_eq_true rfl) (by decide) h
  · replace h := h.2 c1
    refine a_iload_n (k := 1) dX7_hasBundle_4 rfl rfl ?_
    refine a_aload_n (k := 0) dX7_hasBundle_5 rfl rfl ?_
    refine g_X7_24 rfl dX7_hasBundle_6 (St_ho hg o0) ?_
    refine a_icmp_ge (tgt := 16) dX7_hasBundle_9 (by decide) (fun c2 => ?_) (fun c2 => ?_)
    · replace h := h.1 c2
      refine a_iconst dX7_hasBundle_16 (by decide) ?_
      exact a_zret dX7_hasBundle_17 rfl (Nat.le_of_ble_eq_true rfl) (Nat.le_of_ble_eq_true rfl) (by decide) h
    · replace h := h.2 c2
      refine a_iconst dX7_hasBundle_12 (by decide) ?_
      refine a_goto (tgt := 17) dX7_hasBundle_13 (by decide) ?_
      exact a_zret dX7_hasBundle_17 rfl (Nat.le_of_ble_eq_true rfl) (Nat.le_of_ble_eq_true rfl) (by decide) h
theorem m_X7_bundleAt {G : GT} (hg : gx G = FX) {n : Nat} {μ : Mem} {Q : Int → Nat → Mem → Prop} {v0 v1 : Int} (o0 : St v0 7 5) (h : ((v1 < 0 → (((0 : Int) ≤ v0 + 1) ∧ (Q (v0 + 1) n μ))) ∧ (¬ (v1 < 0) → ((v1 < 8 → (((0 : Int) ≤ v1 ∧ v1 < 8) ∧ ((¬ (v0 + 4 + 1 + 3 * v1 < 0) → (((0 : Int) ≤ v0 + 4 + 1 + 3 * v1) ∧ (Q (v0 + 4 + 1 + 3 * v1) n μ))) ∧ (v0 + 4 + 1 + 3 * v1 < 0 → (((0 : Int) ≤ v0 + 1) ∧ (Q (v0 + 1) n μ)))))) ∧ (¬ (v1 < 8) → (((0 : Int) ≤ v0 + 1) ∧ (Q (v0 + 1) n μ))))))) : CR G Y_X7_bundleAt [.inr v0, .inl v1] n μ Q := by
  refine e_R (by decide) (Nat.le_of_ble_eq_true rfl) ?_
  show Wa G Y_X7_bundleAt (ZR G Y_X7_bundleAt Q) 0 0 n μ 0 [(0, .inr v0), (1, .inl v1)] []
  refine a_iload_n (k := 1) dX7_bundleAt_0 rfl rfl ?_
  refine a_if_lt (tgt := 13) dX7_bundleAt_1 (by decide) (fun c1 => ?_) (fun c1 => ?_)
  · replace h := h.1 c1
    refine a_aload_n (k := 0) dX7_bundleAt_13 rfl rfl ?_
    refine gs_X7_14 rfl dX7_bundleAt_14 hg o0 ?_
    obtain ⟨q2, h⟩ := h
    exact a_aret dX7_bundleAt_17 rfl (Nat.le_of_ble_eq_true rfl) (Nat.le_of_ble_eq_true rfl) q2 h
  · replace h := h.2 c1
    refine a_iload_n (k := 1) dX7_bundleAt_4 rfl rfl ?_
    refine a_aload_n (k := 0) dX7_bundleAt_5 rfl rfl ?_
    refine gs_X7_20 rfl dX7_bundleAt_6 hg o0 ?_
    refine a_alen (N := 8) (t0 := 2) dX7_bundleAt_9 (by decide) (by decide) rfl (St_ho hg (st_7_4 o0)) ?_
    refine a_icmp_lt (tgt := 18) dX7_bundleAt_10 (by decide) (fun c3 => ?_) (fun c3 => ?_)
    · replace h := h.1 c3
      refine a_aload_n (k := 0) dX7_bundleAt_18 rfl rfl ?_
      refine gs_X7_20 rfl dX7_bundleAt_19 hg o0 ?_
      refine a_iload_n (k := 1) dX7_bundleAt_22 rfl rfl ?_
      obtain ⟨q4, h⟩ := h
      refine a_alds22 dX7_bundleAt_23 hg (st_7_4 o0) q4.1 q4.2 ?_
      refine b_astore_n (L' := [(0, .inr v0), (1, .inl v1), (2, .inr (v0 + 4 + 1 + 3 * v1))]) [1, 2, 0] dX7_bundleAt_24 rfl (by decide) rfl ?_
      refine a_aload_n (k := 2) dX7_bundleAt_25 rfl rfl ?_
      refine a_ifnonnull (tgt := 36) dX7_bundleAt_26 (by decide) (fun c5 => ?_) (fun c5 => ?_)
      · replace h := h.1 c5
        refine a_aload_n (k := 2) dX7_bundleAt_36 rfl rfl ?_
        obtain ⟨q6, h⟩ := h
        exact a_aret dX7_bundleAt_37 rfl (Nat.le_of_ble_eq_true rfl) (Nat.le_of_ble_eq_true rfl) q6 h
      · replace h := h.2 c5
        refine a_aload_n (k := 0) dX7_bundleAt_29 rfl rfl ?_
        refine gs_X7_14 rfl dX7_bundleAt_30 hg o0 ?_
        refine a_goto (tgt := 37) dX7_bundleAt_33 (by decide) ?_
        obtain ⟨q7, h⟩ := h
        exact a_aret dX7_bundleAt_37 rfl (Nat.le_of_ble_eq_true rfl) (Nat.le_of_ble_eq_true rfl) q7 h
    · replace h := h.2 c3
      refine a_aload_n (k := 0) dX7_bundleAt_13 rfl rfl ?_
      refine gs_X7_14 rfl dX7_bundleAt_14 hg o0 ?_
      obtain ⟨q8, h⟩ := h
      exact a_aret dX7_bundleAt_17 rfl (Nat.le_of_ble_eq_true rfl) (Nat.le_of_ble_eq_true rfl) q8 h
theorem m_X7_addBundle {G : GT} (hg : gx G = FX) {n : Nat} {μ : Mem} {Q : Int → Nat → Mem → Prop} {v0 : Int} (o0 : St v0 7 5) (h : ((inR ((μ v0 2) + 1)) ∧ ((inR (((up μ v0 2 ((μ v0 2) + 1)) v0 2) - 1)) ∧ (Q (((up μ v0 2 ((μ v0 2) + 1)) v0 2) - 1) n (up μ v0 2 ((μ v0 2) + 1)))))) : CI G Y_X7_addBundle [.inr v0] n μ Q := by
  refine e_I (by decide) (Nat.le_of_ble_eq_true rfl) ?_
  show Wa G Y_X7_addBundle (ZI G Y_X7_addBundle Q) 0 0 n μ 0 [(0, .inr v0)] []
  refine a_aload_n (k := 0) dX7_addBundle_0 rfl rfl ?_
  refine a_dup dX7_addBundle_1 ?_
  refine g_X7_24 rfl dX7_addBundle_2 (St_ho hg o0) ?_
  refine a_iconst dX7_addBundle_5 (by decide) ?_
  obtain ⟨q1, h⟩ := h
  refine a_iadd dX7_addBundle_6 q1 ?_
  refine p_X7_24 rfl dX7_addBundle_7 (St_ho hg o0) (FX_put hg o0 rfl) ?_
  refine a_aload_n (k := 0) dX7_addBundle_10 rfl rfl ?_
  refine g_X7_24 rfl dX7_addBundle_11 (St_ho hg o0) ?_
  refine a_iconst dX7_addBundle_14 (by decide) ?_
  obtain ⟨q2, h⟩ := h
  refine a_isub dX7_addBundle_15 q2 ?_
  exact a_iret dX7_addBundle_16 rfl (Nat.le_of_ble_eq_true rfl) (Nat.le_of_ble_eq_true rfl) h
theorem m_X7_isMissed {G : GT} (hg : gx G = FX) {n : Nat} {μ : Mem} {Q : Int → Nat → Mem → Prop} {v0 v1 : Int} (o0 : St v0 7 5) (h : ((¬ ((iAnd (iShr (μ v0 4) v1) 1) = 1) → (Q 0 n μ)) ∧ ((iAnd (iShr (μ v0 4) v1) 1) = 1 → (Q 1 n μ)))) : CI G Y_X7_isMissed [.inr v0, .inl v1] n μ Q := by
  refine e_I (by decide) (Nat.le_of_ble_eq_true rfl) ?_
  show Wa G Y_X7_isMissed (ZI G Y_X7_isMissed Q) 0 0 n μ 0 [(0, .inr v0), (1, .inl v1)] []
  refine a_aload_n (k := 0) dX7_isMissed_0 rfl rfl ?_
  refine g_X7_31 rfl dX7_isMissed_1 (St_ho hg o0) ?_
  refine a_iload_n (k := 1) dX7_isMissed_4 rfl rfl ?_
  refine a_ishr dX7_isMissed_5 ?_
  refine a_iconst dX7_isMissed_6 (by decide) ?_
  refine a_iand dX7_isMissed_7 ?_
  refine a_iconst dX7_isMissed_8 (by decide) ?_
  refine a_icmp_ne (tgt := 16) dX7_isMissed_9 (by decide) (fun c1 => ?_) (fun c1 => ?_)
  · replace h := h.1 c1
    refine a_iconst dX7_isMissed_16 (by decide) ?_
    exact a_zret dX7_isMissed_17 rfl (Nat.le_of_ble_eq_true rfl) (Nat.le_of_ble_eq_true rfl) (by decide) h
  · replace h := h.2 c1
    refine a_iconst dX7_isMissed_12 (by decide) ?_
    refine a_goto (tgt := 17) dX7_isMissed_13 (by decide) ?_
    exact a_zret dX7_isMissed_17 rfl (Nat.le_of_ble_eq_true rfl) (Nat.le_of_ble_eq_true rfl) (by decide) h
abbrev B_X7_isOpen_22 (G : GT) (Q : Int → Nat → Mem → Prop) (n : Nat) (μ : Mem) : Prop := Wa G Y_X7_isOpen (ZI G Y_X7_isOpen Q) 0 0 n μ 22 [] []
theorem m_X7_isOpen {G : GT} (hg : gx G = FX) {n : Nat} {μ : Mem} {Q : Int → Nat → Mem → Prop} {v0 v1 : Int} (o0 : St v0 7 5) (h : (CR G Y_X7_bundleAt [.inr v0, .inl v1] n μ (fun (x1 : Int) (n2 : Nat) (μ3 : Mem) => (St x1 0 9) ∧ (CI G Y_X0_standing [.inr x1, .inl (μ3 v0 3)] n2 μ3 (fun (x5 : Int) (n6 : Nat) (μ7 : Mem) => ((x5 = 0 → (B_X7_isOpen_22 G Q n6 μ7)) ∧ (¬ (x5 = 0) → ((¬ (x5 = 1) → (Q 0 n6 μ7)) ∧ (x5 = 1 → (B_X7_isOpen_22 G Q n6 μ7)))))))))) : CI G Y_X7_isOpen [.inr v0, .inl v1] n μ Q := by
  refine e_I (by decide) (Nat.le_of_ble_eq_true rfl) ?_
  show Wa G Y_X7_isOpen (ZI G Y_X7_isOpen Q) 0 0 n μ 0 [(0, .inr v0), (1, .inl v1)] []
  refine a_aload_n (k := 0) dX7_isOpen_0 rfl rfl ?_
  refine a_iload_n (k := 1) dX7_isOpen_1 rfl rfl ?_
  refine k_X7_34 rfl dX7_isOpen_2 (Nat.le_of_ble_eq_true rfl) rfl (Nat.le_of_ble_eq_true rfl) (Nat.le_of_ble_eq_true rfl) (St_ho hg o0) h (fun x1 n2 μ3 _ h => ?_)
  obtain ⟨q4, h⟩ := h
  refine a_aload_n (k := 0) dX7_isOpen_5 rfl rfl ?_
  refine g_X7_28 rfl dX7_isOpen_6 (St_ho hg o0) ?_
  refine k_X7_42 rfl dX7_isOpen_9 (Nat.le_of_ble_eq_true rfl) rfl (Nat.le_of_ble_eq_true rfl) (Nat.le_of_ble_eq_true rfl) (St_ho hg q4) h (fun x5 n6 μ7 h => ?_)
  refine b_istore_n (L' := [(0, .inr v0), (1, .inl v1), (2, .inl x5)]) [1, 2, 0] dX7_isOpen_12 rfl (by decide) rfl ?_
  refine a_iload_n (k := 2) dX7_isOpen_13 rfl rfl ?_
  refine a_if_eq (tgt := 22) dX7_isOpen_14 (by decide) (fun c8 => ?_) (fun c8 => ?_)
  · replace h := h.1 c8
    refine a_sub [] rfl ?_
    exact h
  · replace h := h.2 c8
    refine a_iload_n (k := 2) dX7_isOpen_17 rfl rfl ?_
    refine a_iconst dX7_isOpen_18 (by decide) ?_
    refine a_icmp_ne (tgt := 26) dX7_isOpen_19 (by decide) (fun c9 => ?_) (fun c9 => ?_)
    · replace h := h.1 c9
      refine a_iconst dX7_isOpen_26 (by decide) ?_
      exact a_zret dX7_isOpen_27 rfl (Nat.le_of_ble_eq_true rfl) (Nat.le_of_ble_eq_true rfl) (by decide) h
    · replace h := h.2 c9
      refine a_sub [] rfl ?_
      exact h
theorem b_X7_isOpen_22 {G : GT} (hg : gx G = FX) {n : Nat} {μ : Mem} {Q : Int → Nat → Mem → Prop}  (h : (Q 1 n μ)) : B_X7_isOpen_22 G Q n μ := by
  show Wa G Y_X7_isOpen (ZI G Y_X7_isOpen Q) 0 0 n μ 22 [] []
  refine a_iconst dX7_isOpen_22 (by decide) ?_
  refine a_goto (tgt := 27) dX7_isOpen_23 (by decide) ?_
  exact a_zret dX7_isOpen_27 rfl (Nat.le_of_ble_eq_true rfl) (Nat.le_of_ble_eq_true rfl) (by decide) h
theorem m_X7_countStanding {G : GT} (hg : gx G = FX) {n : Nat} {μ : Mem} {Q : Int → Nat → Mem → Prop} {v0 v1 : Int} (o0 : St v0 7 5) (h : (CI G Y_X7_allStanding [.inr v0, .inl v1] n μ (fun (x1 : Int) (n2 : Nat) (μ3 : Mem) => (CI G Y_J6_bitCount_0f7a4 [.inl x1] n2 μ3 (fun (x4 : Int) (n5 : Nat) (μ6 : Mem) => (Q x4 n5 μ6)))))) : CI G Y_X7_countStanding [.inr v0, .inl v1] n μ Q := by
  refine e_I (by decide) (Nat.le_of_ble_eq_true rfl) ?_
  show Wa G Y_X7_countStanding (ZI G Y_X7_countStanding Q) 0 0 n μ 0 [(0, .inr v0), (1, .inl v1)] []
  refine a_aload_n (k := 0) dX7_countStanding_0 rfl rfl ?_
  refine a_iload_n (k := 1) dX7_countStanding_1 rfl rfl ?_
  refine k_X7_46 rfl dX7_countStanding_2 (Nat.le_of_ble_eq_true rfl) rfl (Nat.le_of_ble_eq_true rfl) (Nat.le_of_ble_eq_true rfl) (St_ho hg o0) h (fun x1 n2 μ3 h => ?_)
  refine k_X7_49 rfl dX7_countStanding_5 (Nat.le_of_ble_eq_true rfl) rfl (Nat.le_of_ble_eq_true rfl) (Nat.le_of_ble_eq_true rfl) h (fun x4 n5 μ6 h => ?_)
  exact a_iret dX7_countStanding_8 rfl (Nat.le_of_ble_eq_true rfl) (Nat.le_of_ble_eq_true rfl) h
abbrev B_X7_allStanding_4 (G : GT) (Q : Int → Nat → Mem → Prop) (n : Nat) (μ : Mem) (v0 : Int) (v1 : Int) (v2 : Int) (v3 : Int) : Prop := Wa G Y_X7_allStanding (ZI G Y_X7_allStanding Q) 0 0 n μ 4 [(0, .inr v0), (1, .inl v1), (2, .inl v2), (3, .inl v3)] []
theorem m_X7_allStanding {G : GT} (hg : gx G = FX) {n : Nat} {μ : Mem} {Q : Int → Nat → Mem → Prop} {v0 v1 : Int} (o0 : St v0 7 5) (h : (B_X7_allStanding_4 G Q n μ v0 v1 0 0)) : CI G Y_X7_allStanding [.inr v0, .inl v1] n μ Q := by
  refine e_I (by decide) (Nat.le_of_ble_eq_true rfl) ?_
  show Wa G Y_X7_allStanding (ZI G Y_X7_allStanding Q) 0 0 n μ 0 [(0, .inr v0), (1, .inl v1)] []
  refine a_iconst dX7_allStanding_0 (by decide) ?_
  refine b_istore_n (L' := [(0, .inr v0), (1, .inl v1), (2, .inl 0)]) [1, 2, 0] dX7_allStanding_1 rfl (by decide) rfl ?_
  refine a_iconst dX7_allStanding_2 (by decide) ?_
  refine b_istore_n (L' := [(0, .inr v0), (1, .inl v1), (2, .inl 0), (3, .inl 0)]) [1, 2, 3, 0] dX7_allStanding_3 rfl (by decide) rfl ?_
  exact h
theorem b_X7_allStanding_4 {G : GT} (hg : gx G = FX) {n : Nat} {μ : Mem} {Q : Int → Nat → Mem → Prop} {v0 v1 v2 v3 : Int} (o0 : St v0 7 5) (h : (((μ v0 2) ≤ v3 → (Q v2 n μ)) ∧ (¬ ((μ v0 2) ≤ v3) → (CR G Y_X7_bundleAt [.inr v0, .inl v3] n μ (fun (x2 : Int) (n3 : Nat) (μ4 : Mem) => (St x2 0 9) ∧ (CI G Y_X0_standing [.inr x2, .inl (μ4 v0 3)] n3 μ4 (fun (x6 : Int) (n7 : Nat) (μ8 : Mem) => ((¬ (x6 = v1) → ((inR (v3 + 1)) ∧ (B_X7_allStanding_4 G Q n7 μ8 v0 v1 v2 (v3 + 1)))) ∧ (x6 = v1 → ((inR (v3 + 1)) ∧ (B_X7_allStanding_4 G Q n7 μ8 v0 v1 (iOr v2 (iShl 1 v3)) (v3 + 1)))))))))))) : B_X7_allStanding_4 G Q n μ v0 v1 v2 v3 := by
  show Wa G Y_X7_allStanding (ZI G Y_X7_allStanding Q) 0 0 n μ 4 [(0, .inr v0), (1, .inl v1), (2, .inl v2), (3, .inl v3)] []
  refine a_iload_n (k := 3) dX7_allStanding_4 rfl rfl ?_
  refine a_aload_n (k := 0) dX7_allStanding_5 rfl rfl ?_
  refine g_X7_24 rfl dX7_allStanding_6 (St_ho hg o0) ?_
  refine a_icmp_ge (tgt := 40) dX7_allStanding_9 (by decide) (fun c1 => ?_) (fun c1 => ?_)
  · replace h := h.1 c1
    refine a_iload_n (k := 2) dX7_allStanding_40 rfl rfl ?_
    exact a_iret dX7_allStanding_41 rfl (Nat.le_of_ble_eq_true rfl) (Nat.le_of_ble_eq_true rfl) h
  · replace h := h.2 c1
    refine a_aload_n (k := 0) dX7_allStanding_12 rfl rfl ?_
    refine a_iload_n (k := 3) dX7_allStanding_13 rfl rfl ?_
    refine k_X7_34 rfl dX7_allStanding_14 (Nat.le_of_ble_eq_true rfl) rfl (Nat.le_of_ble_eq_true rfl) (Nat.le_of_ble_eq_true rfl) (St_ho hg o0) h (fun x2 n3 μ4 _ h => ?_)
    obtain ⟨q5, h⟩ := h
    refine a_aload_n (k := 0) dX7_allStanding_17 rfl rfl ?_
    refine g_X7_28 rfl dX7_allStanding_18 (St_ho hg o0) ?_
    refine k_X7_42 rfl dX7_allStanding_21 (Nat.le_of_ble_eq_true rfl) rfl (Nat.le_of_ble_eq_true rfl) (Nat.le_of_ble_eq_true rfl) (St_ho hg q5) h (fun x6 n7 μ8 h => ?_)
    refine a_iload_n (k := 1) dX7_allStanding_24 rfl rfl ?_
    refine a_icmp_ne (tgt := 34) dX7_allStanding_25 (by decide) (fun c9 => ?_) (fun c9 => ?_)
    · replace h := h.1 c9
      obtain ⟨q10, h⟩ := h
      refine b_iinc (L' := [(0, .inr v0), (1, .inl v1), (2, .inl v2), (3, .inl (v3 + 1))]) (k := 3) [1, 2, 3, 0] dX7_allStanding_34 rfl q10 (by decide) rfl ?_
      refine a_goto (tgt := 4) dX7_allStanding_37 (by decide) ?_
      exact h
    · replace h := h.2 c9
      refine a_iload_n (k := 2) dX7_allStanding_28 rfl rfl ?_
      refine a_iconst dX7_allStanding_29 (by decide) ?_
      refine a_iload_n (k := 3) dX7_allStanding_30 rfl rfl ?_
      refine a_ishl dX7_allStanding_31 ?_
      refine a_ior dX7_allStanding_32 ?_
      refine b_istore_n (L' := [(0, .inr v0), (1, .inl v1), (2, .inl (iOr v2 (iShl 1 v3))), (3, .inl v3)]) [1, 2, 0, 3] dX7_allStanding_33 rfl (by decide) rfl ?_
      obtain ⟨q11, h⟩ := h
      refine b_iinc (L' := [(0, .inr v0), (1, .inl v1), (2, .inl (iOr v2 (iShl 1 v3))), (3, .inl (v3 + 1))]) (k := 3) [1, 2, 3, 0] dX7_allStanding_34 rfl q11 (by decide) rfl ?_
      refine a_goto (tgt := 4) dX7_allStanding_37 (by decide) ?_
      exact h
theorem m_X7_tickAtGoal {G : GT} (hg : gx G = FX) {n : Nat} {μ : Mem} {Q : Int → Nat → Mem → Prop} {v0 v1 : Int} (o0 : St v0 7 5) (h : (CR G Y_X7_bundleAt [.inr v0, .inl v1] n μ (fun (x1 : Int) (n2 : Nat) (μ3 : Mem) => (St x1 0 9) ∧ (CI G Y_X0_standing [.inr x1, .inl (μ3 v0 3)] n2 μ3 (fun (x5 : Int) (n6 : Nat) (μ7 : Mem) => ((¬ (x5 = 2) → ((¬ (x5 = 1) → (Q (-9) n6 μ7)) ∧ (x5 = 1 → (CR G Y_X7_bundleAt [.inr v0, .inl v1] n6 μ7 (fun (x10 : Int) (n11 : Nat) (μ12 : Mem) => (St x10 0 9) ∧ (CI G Y_X0_lastThere [.inr x10] n11 μ12 (fun (x14 : Int) (n15 : Nat) (μ16 : Mem) => (Q x14 n15 μ16)))))))) ∧ (x5 = 2 → (Q (μ7 v0 3) n6 μ7)))))))) : CI G Y_X7_tickAtGoal [.inr v0, .inl v1] n μ Q := by
  refine e_I (by decide) (Nat.le_of_ble_eq_true rfl) ?_
  show Wa G Y_X7_tickAtGoal (ZI G Y_X7_tickAtGoal Q) 0 0 n μ 0 [(0, .inr v0), (1, .inl v1)] []
  refine a_aload_n (k := 0) dX7_tickAtGoal_0 rfl rfl ?_
  refine a_iload_n (k := 1) dX7_tickAtGoal_1 rfl rfl ?_
  refine k_X7_34 rfl dX7_tickAtGoal_2 (Nat.le_of_ble_eq_true rfl) rfl (Nat.le_of_ble_eq_true rfl) (Nat.le_of_ble_eq_true rfl) (St_ho hg o0) h (fun x1 n2 μ3 _ h => ?_)
  obtain ⟨q4, h⟩ := h
  refine a_aload_n (k := 0) dX7_tickAtGoal_5 rfl rfl ?_
  refine g_X7_28 rfl dX7_tickAtGoal_6 (St_ho hg o0) ?_
  refine k_X7_42 rfl dX7_tickAtGoal_9 (Nat.le_of_ble_eq_true rfl) rfl (Nat.le_of_ble_eq_true rfl) (Nat.le_of_ble_eq_true rfl) (St_ho hg q4) h (fun x5 n6 μ7 h => ?_)
  refine b_istore_n (L' := [(0, .inr v0), (1, .inl v1), (2, .inl x5)]) [1, 2, 0] dX7_tickAtGoal_12 rfl (by decide) rfl ?_
  refine a_iload_n (k := 2) dX7_tickAtGoal_13 rfl rfl ?_
  refine a_iconst dX7_tickAtGoal_14 (by decide) ?_
  refine a_icmp_ne (tgt := 23) dX7_tickAtGoal_15 (by decide) (fun c8 => ?_) (fun c8 => ?_)
  · replace h := h.1 c8
    refine a_iload_n (k := 2) dX7_tickAtGoal_23 rfl rfl ?_
    refine a_iconst dX7_tickAtGoal_24 (by decide) ?_
    refine a_icmp_ne (tgt := 39) dX7_tickAtGoal_25 (by decide) (fun c9 => ?_) (fun c9 => ?_)
    · replace h := h.1 c9
      refine a_bipush dX7_tickAtGoal_39 (by decide) (by decide) ?_
      exact a_iret dX7_tickAtGoal_41 rfl (Nat.le_of_ble_eq_true rfl) (Nat.le_of_ble_eq_true rfl) h
    · replace h := h.2 c9
      refine a_aload_n (k := 0) dX7_tickAtGoal_28 rfl rfl ?_
      refine a_iload_n (k := 1) dX7_tickAtGoal_29 rfl rfl ?_
      refine k_X7_34 rfl dX7_tickAtGoal_30 (Nat.le_of_ble_eq_true rfl) rfl (Nat.le_of_ble_eq_true rfl) (Nat.le_of_ble_eq_true rfl) (St_ho hg o0) h (fun x10 n11 μ12 _ h => ?_)
      obtain ⟨q13, h⟩ := h
      refine k_X7_54 rfl dX7_tickAtGoal_33 (Nat.le_of_ble_eq_true rfl) rfl (Nat.le_of_ble_eq_true rfl) (Nat.le_of_ble_eq_true rfl) (St_ho hg q13) h (fun x14 n15 μ16 h => ?_)
      refine a_goto (tgt := 41) dX7_tickAtGoal_36 (by decide) ?_
      exact a_iret dX7_tickAtGoal_41 rfl (Nat.le_of_ble_eq_true rfl) (Nat.le_of_ble_eq_true rfl) h
  · replace h := h.2 c8
    refine a_aload_n (k := 0) dX7_tickAtGoal_18 rfl rfl ?_
    refine g_X7_28 rfl dX7_tickAtGoal_19 (St_ho hg o0) ?_
    exact a_iret dX7_tickAtGoal_22 rfl (Nat.le_of_ble_eq_true rfl) (Nat.le_of_ble_eq_true rfl) h
abbrev B_X7_takerOf_2 (G : GT) (Q : Int → Nat → Mem → Prop) (n : Nat) (μ : Mem) (v0 : Int) (v1 : Int) (v2 : Int) (v3 : Int) : Prop := Wa G Y_X7_takerOf (ZI G Y_X7_takerOf Q) 0 0 n μ 2 [(0, .inr v0), (1, .inl v1), (2, .inl v2), (3, .inl v3)] []
theorem m_X7_takerOf {G : GT} (hg : gx G = FX) {n : Nat} {μ : Mem} {Q : Int → Nat → Mem → Prop} {v0 v1 v2 : Int} (o0 : St v0 7 5) (h : (B_X7_takerOf_2 G Q n μ v0 v1 v2 0)) : CI G Y_X7_takerOf [.inr v0, .inl v1, .inl v2] n μ Q := by
  refine e_I (by decide) (Nat.le_of_ble_eq_true rfl) ?_
  show Wa G Y_X7_takerOf (ZI G Y_X7_takerOf Q) 0 0 n μ 0 [(0, .inr v0), (1, .inl v1), (2, .inl v2)] []
  refine a_iconst dX7_takerOf_0 (by decide) ?_
  refine b_istore_n (L' := [(0, .inr v0), (1, .inl v1), (2, .inl v2), (3, .inl 0)]) [1, 2, 3, 0] dX7_takerOf_1 rfl (by decide) rfl ?_
  exact h
theorem b_X7_takerOf_2 {G : GT} (hg : gx G = FX) {n : Nat} {μ : Mem} {Q : Int → Nat → Mem → Prop} {v0 v1 v2 v3 : Int} (o0 : St v0 7 5) (h : (((μ v0 2) ≤ v3 → (Q (-9) n μ)) ∧ (¬ ((μ v0 2) ≤ v3) → (CR G Y_X7_bundleAt [.inr v0, .inl v3] n μ (fun (x2 : Int) (n3 : Nat) (μ4 : Mem) => (St x2 0 9) ∧ (CI G Y_X0_takes [.inr x2, .inl v1, .inl v2] n3 μ4 (fun (x6 : Int) (n7 : Nat) (μ8 : Mem) => ((x6 = 0 → ((inR (v3 + 1)) ∧ (B_X7_takerOf_2 G Q n7 μ8 v0 v1 v2 (v3 + 1)))) ∧ (¬ (x6 = 0) → (Q v3 n7 μ8)))))))))) : B_X7_takerOf_2 G Q n μ v0 v1 v2 v3 := by
  show Wa G Y_X7_takerOf (ZI G Y_X7_takerOf Q) 0 0 n μ 2 [(0, .inr v0), (1, .inl v1), (2, .inl v2), (3, .inl v3)] []
  refine a_iload_n (k := 3) dX7_takerOf_2 rfl rfl ?_
  refine a_aload_n (k := 0) dX7_takerOf_3 rfl rfl ?_
  refine g_X7_24 rfl dX7_takerOf_4 (St_ho hg o0) ?_
  refine a_icmp_ge (tgt := 31) dX7_takerOf_7 (by decide) (fun c1 => ?_) (fun c1 => ?_)
  · replace h := h.1 c1
    refine a_bipush dX7_takerOf_31 (by decide) (by decide) ?_
    exact a_iret dX7_takerOf_33 rfl (Nat.le_of_ble_eq_true rfl) (Nat.le_of_ble_eq_true rfl) h
  · replace h := h.2 c1
    refine a_aload_n (k := 0) dX7_takerOf_10 rfl rfl ?_
    refine a_iload_n (k := 3) dX7_takerOf_11 rfl rfl ?_
    refine k_X7_34 rfl dX7_takerOf_12 (Nat.le_of_ble_eq_true rfl) rfl (Nat.le_of_ble_eq_true rfl) (Nat.le_of_ble_eq_true rfl) (St_ho hg o0) h (fun x2 n3 μ4 _ h => ?_)
    obtain ⟨q5, h⟩ := h
    refine a_iload_n (k := 1) dX7_takerOf_15 rfl rfl ?_
    refine a_iload_n (k := 2) dX7_takerOf_16 rfl rfl ?_
    refine k_X7_58 rfl dX7_takerOf_17 (Nat.le_of_ble_eq_true rfl) rfl (Nat.le_of_ble_eq_true rfl) (Nat.le_of_ble_eq_true rfl) (St_ho hg q5) h (fun x6 n7 μ8 h => ?_)
    refine a_if_eq (tgt := 25) dX7_takerOf_20 (by decide) (fun c9 => ?_) (fun c9 => ?_)
    · replace h := h.1 c9
      obtain ⟨q10, h⟩ := h
      refine b_iinc (L' := [(0, .inr v0), (1, .inl v1), (2, .inl v2), (3, .inl (v3 + 1))]) (k := 3) [1, 2, 3, 0] dX7_takerOf_25 rfl q10 (by decide) rfl ?_
      refine a_goto (tgt := 2) dX7_takerOf_28 (by decide) ?_
      exact h
    · replace h := h.2 c9
      refine a_iload_n (k := 3) dX7_takerOf_23 rfl rfl ?_
      exact a_iret dX7_takerOf_24 rfl (Nat.le_of_ble_eq_true rfl) (Nat.le_of_ble_eq_true rfl) h
abbrev B_X7_advance_12 (G : GT) (Q : Nat → Mem → Prop) (n : Nat) (μ : Mem) (v0 : Int) (v2 : Int) : Prop := Wa G Y_X7_advance (ZV G Y_X7_advance Q) 0 0 n μ 12 [(0, .inr v0), (2, .inl v2)] []
theorem m_X7_advance {G : GT} (hg : gx G = FX) {n : Nat} {μ : Mem} {Q : Nat → Mem → Prop} {v0 v1 : Int} (o0 : St v0 7 5) (h : ((inR ((μ v0 3) + v1)) ∧ (B_X7_advance_12 G Q n (up μ v0 3 ((μ v0 3) + v1)) v0 0))) : CV G Y_X7_advance [.inr v0, .inl v1] n μ Q := by
  refine e_V (by decide) (Nat.le_of_ble_eq_true rfl) ?_
  show Wa G Y_X7_advance (ZV G Y_X7_advance Q) 0 0 n μ 0 [(0, .inr v0), (1, .inl v1)] []
  refine a_aload_n (k := 0) dX7_advance_0 rfl rfl ?_
  refine a_dup dX7_advance_1 ?_
  refine g_X7_28 rfl dX7_advance_2 (St_ho hg o0) ?_
  refine a_iload_n (k := 1) dX7_advance_5 rfl rfl ?_
  obtain ⟨q1, h⟩ := h
  refine a_iadd dX7_advance_6 q1 ?_
  refine p_X7_28 rfl dX7_advance_7 (St_ho hg o0) (FX_put hg o0 rfl) ?_
  refine a_iconst dX7_advance_10 (by decide) ?_
  refine b_istore_n (L' := [(0, .inr v0), (1, .inl v1), (2, .inl 0)]) [1, 2, 0] dX7_advance_11 rfl (by decide) rfl ?_
  refine a_sub [0, 2] rfl ?_
  exact h
theorem b_X7_advance_12 {G : GT} (hg : gx G = FX) {n : Nat} {μ : Mem} {Q : Nat → Mem → Prop} {v0 v2 : Int} (o0 : St v0 7 5) (h : (((μ v0 2) ≤ v2 → (Q n μ)) ∧ (¬ ((μ v0 2) ≤ v2) → (CR G Y_X7_bundleAt [.inr v0, .inl v2] n μ (fun (x2 : Int) (n3 : Nat) (μ4 : Mem) => (St x2 0 9) ∧ (CV G Y_X0_arrive [.inr x2, .inl (μ4 v0 3)] n3 μ4 (fun (n7 : Nat) (μ8 : Mem) => ((inR (v2 + 1)) ∧ (B_X7_advance_12 G Q n7 μ8 v0 (v2 + 1)))))))))) : B_X7_advance_12 G Q n μ v0 v2 := by
  show Wa G Y_X7_advance (ZV G Y_X7_advance Q) 0 0 n μ 12 [(0, .inr v0), (2, .inl v2)] []
  refine a_iload_n (k := 1) dX7_advance_12 rfl rfl ?_
  refine a_aload_n (k := 0) dX7_advance_13 rfl rfl ?_
  refine g_X7_24 rfl dX7_advance_14 (St_ho hg o0) ?_
  refine a_icmp_ge (tgt := 38) dX7_advance_17 (by decide) (fun c1 => ?_) (fun c1 => ?_)
  · replace h := h.1 c1
    exact a_ret dX7_advance_38 rfl (Nat.le_of_ble_eq_true rfl) (Nat.le_of_ble_eq_true rfl) h
  · replace h := h.2 c1
    refine a_aload_n (k := 0) dX7_advance_20 rfl rfl ?_
    refine a_iload_n (k := 1) dX7_advance_21 rfl rfl ?_
    refine k_X7_34 rfl dX7_advance_22 (Nat.le_of_ble_eq_true rfl) rfl (Nat.le_of_ble_eq_true rfl) (Nat.le_of_ble_eq_true rfl) (St_ho hg o0) h (fun x2 n3 μ4 _ h => ?_)
    obtain ⟨q5, h⟩ := h
    refine a_aload_n (k := 0) dX7_advance_25 rfl rfl ?_
    refine g_X7_28 rfl dX7_advance_26 (St_ho hg o0) ?_
    refine k_X7_62 rfl dX7_advance_29 (Nat.le_of_ble_eq_true rfl) rfl (Nat.le_of_ble_eq_true rfl) (Nat.le_of_ble_eq_true rfl) (St_ho hg q5) h (fun n7 μ8 h => ?_)
    obtain ⟨q9, h⟩ := h
    refine b_iinc (L' := [(0, .inr v0), (2, .inl (v2 + 1))]) (k := 1) [1, 0] dX7_advance_32 rfl q9 (by decide) rfl ?_
    refine a_goto (tgt := 12) dX7_advance_35 (by decide) ?_
    exact h
abbrev B_X7_lose_16 (G : GT) (Q : Int → Nat → Mem → Prop) (n : Nat) (μ : Mem) (v0 : Int) (v1 : Int) (v2 : Int) (v3 : Int) : Prop := Wa G Y_X7_lose (ZI G Y_X7_lose Q) 0 0 n μ 16 [(0, .inr v0), (1, .inl v1), (2, .inl v2), (3, .inl v3)] []
theorem m_X7_lose {G : GT} (hg : gx G = FX) {n : Nat} {μ : Mem} {Q : Int → Nat → Mem → Prop} {v0 v1 : Int} (o0 : St v0 7 5) (h : (B_X7_lose_16 G Q n (up μ v0 4 (iOr (μ v0 4) (iShl 1 v1))) v0 v1 0 0)) : CI G Y_X7_lose [.inr v0, .inl v1] n μ Q := by
  refine e_I (by decide) (Nat.le_of_ble_eq_true rfl) ?_
  show Wa G Y_X7_lose (ZI G Y_X7_lose Q) 0 0 n μ 0 [(0, .inr v0), (1, .inl v1)] []
  refine a_aload_n (k := 0) dX7_lose_0 rfl rfl ?_
  refine a_dup dX7_lose_1 ?_
  refine g_X7_31 rfl dX7_lose_2 (St_ho hg o0) ?_
  refine a_iconst dX7_lose_5 (by decide) ?_
  refine a_iload_n (k := 1) dX7_lose_6 rfl rfl ?_
  refine a_ishl dX7_lose_7 ?_
  refine a_ior dX7_lose_8 ?_
  refine p_X7_31 rfl dX7_lose_9 (St_ho hg o0) (FX_put hg o0 rfl) ?_
  refine a_iconst dX7_lose_12 (by decide) ?_
  refine b_istore_n (L' := [(0, .inr v0), (1, .inl v1), (2, .inl 0)]) [1, 2, 0] dX7_lose_13 rfl (by decide) rfl ?_
  refine a_iconst dX7_lose_14 (by decide) ?_
  refine b_istore_n (L' := [(0, .inr v0), (1, .inl v1), (2, .inl 0), (3, .inl 0)]) [1, 2, 3, 0] dX7_lose_15 rfl (by decide) rfl ?_
  exact h
theorem b_X7_lose_16 {G : GT} (hg : gx G = FX) {n : Nat} {μ : Mem} {Q : Int → Nat → Mem → Prop} {v0 v1 v2 v3 : Int} (o0 : St v0 7 5) (h : (((μ v0 2) ≤ v3 → (Q v2 n μ)) ∧ (¬ ((μ v0 2) ≤ v3) → (CR G Y_X7_bundleAt [.inr v0, .inl v3] n μ (fun (x2 : Int) (n3 : Nat) (μ4 : Mem) => (St x2 0 9) ∧ (CI G Y_X0_loses [.inr x2, .inl v1, .inl (μ4 v0 3)] n3 μ4 (fun (x6 : Int) (n7 : Nat) (μ8 : Mem) => ((x6 = 0 → ((inR (v3 + 1)) ∧ (B_X7_lose_16 G Q n7 μ8 v0 v1 v2 (v3 + 1)))) ∧ (¬ (x6 = 0) → (CI G Y_X7_isOpen [.inr v0, .inl v3] n7 μ8 (fun (x11 : Int) (n12 : Nat) (μ13 : Mem) => ((x11 = 0 → ((inR (v3 + 1)) ∧ (B_X7_lose_16 G Q n12 μ13 v0 v1 v2 (v3 + 1)))) ∧ (¬ (x11 = 0) → ((inR (v3 + 1)) ∧ (B_X7_lose_16 G Q n12 μ13 v0 v1 (iOr v2 (iShl 1 v3)) (v3 + 1)))))))))))))))) : B_X7_lose_16 G Q n μ v0 v1 v2 v3 := by
  show Wa G Y_X7_lose (ZI G Y_X7_lose Q) 0 0 n μ 16 [(0, .inr v0), (1, .inl v1), (2, .inl v2), (3, .inl v3)] []
  refine a_iload_n (k := 3) dX7_lose_16 rfl rfl ?_
  refine a_aload_n (k := 0) dX7_lose_17 rfl rfl ?_
  refine g_X7_24 rfl dX7_lose_18 (St_ho hg o0) ?_
  refine a_icmp_ge (tgt := 60) dX7_lose_21 (by decide) (fun c1 => ?_) (fun c1 => ?_)
  · replace h := h.1 c1
    refine a_iload_n (k := 2) dX7_lose_60 rfl rfl ?_
    exact a_iret dX7_lose_61 rfl (Nat.le_of_ble_eq_true rfl) (Nat.le_of_ble_eq_true rfl) h
  · replace h := h.2 c1
    refine a_aload_n (k := 0) dX7_lose_24 rfl rfl ?_
    refine a_iload_n (k := 3) dX7_lose_25 rfl rfl ?_
    refine k_X7_34 rfl dX7_lose_26 (Nat.le_of_ble_eq_true rfl) rfl (Nat.le_of_ble_eq_true rfl) (Nat.le_of_ble_eq_true rfl) (St_ho hg o0) h (fun x2 n3 μ4 _ h => ?_)
    obtain ⟨q5, h⟩ := h
    refine a_iload_n (k := 1) dX7_lose_29 rfl rfl ?_
    refine a_aload_n (k := 0) dX7_lose_30 rfl rfl ?_
    refine g_X7_28 rfl dX7_lose_31 (St_ho hg o0) ?_
    refine k_X7_66 rfl dX7_lose_34 (Nat.le_of_ble_eq_true rfl) rfl (Nat.le_of_ble_eq_true rfl) (Nat.le_of_ble_eq_true rfl) (St_ho hg q5) h (fun x6 n7 μ8 h => ?_)
    refine a_if_eq (tgt := 54) dX7_lose_37 (by decide) (fun c9 => ?_) (fun c9 => ?_)
    · replace h := h.1 c9
      obtain ⟨q10, h⟩ := h
      refine b_iinc (L' := [(0, .inr v0), (1, .inl v1), (2, .inl v2), (3, .inl (v3 + 1))]) (k := 3) [1, 2, 3, 0] dX7_lose_54 rfl q10 (by decide) rfl ?_
      refine a_goto (tgt := 16) dX7_lose_57 (by decide) ?_
      exact h
    · replace h := h.2 c9
      refine a_aload_n (k := 0) dX7_lose_40 rfl rfl ?_
      refine a_iload_n (k := 3) dX7_lose_41 rfl rfl ?_
      refine k_X7_69 rfl dX7_lose_42 (Nat.le_of_ble_eq_true rfl) rfl (Nat.le_of_ble_eq_true rfl) (Nat.le_of_ble_eq_true rfl) (St_ho hg o0) h (fun x11 n12 μ13 h => ?_)
      refine a_if_eq (tgt := 54) dX7_lose_45 (by decide) (fun c14 => ?_) (fun c14 => ?_)
      · replace h := h.1 c14
        obtain ⟨q15, h⟩ := h
        refine b_iinc (L' := [(0, .inr v0), (1, .inl v1), (2, .inl v2), (3, .inl (v3 + 1))]) (k := 3) [1, 2, 3, 0] dX7_lose_54 rfl q15 (by decide) rfl ?_
        refine a_goto (tgt := 16) dX7_lose_57 (by decide) ?_
        exact h
      · replace h := h.2 c14
        refine a_iload_n (k := 2) dX7_lose_48 rfl rfl ?_
        refine a_iconst dX7_lose_49 (by decide) ?_
        refine a_iload_n (k := 3) dX7_lose_50 rfl rfl ?_
        refine a_ishl dX7_lose_51 ?_
        refine a_ior dX7_lose_52 ?_
        refine b_istore_n (L' := [(0, .inr v0), (1, .inl v1), (2, .inl (iOr v2 (iShl 1 v3))), (3, .inl v3)]) [1, 2, 0, 3] dX7_lose_53 rfl (by decide) rfl ?_
        obtain ⟨q16, h⟩ := h
        refine b_iinc (L' := [(0, .inr v0), (1, .inl v1), (2, .inl (iOr v2 (iShl 1 v3))), (3, .inl (v3 + 1))]) (k := 3) [1, 2, 3, 0] dX7_lose_54 rfl q16 (by decide) rfl ?_
        refine a_goto (tgt := 16) dX7_lose_57 (by decide) ?_
        exact h
theorem m_X7_regain {G : GT} (hg : gx G = FX) {n : Nat} {μ : Mem} {Q : Int → Nat → Mem → Prop} {v0 v1 : Int} (o0 : St v0 7 5) (h : (CI G Y_X7_allStanding [.inr v0, .inl 0] n (up μ v0 4 (iAnd (μ v0 4) (iXor (iShl 1 v1) (-1)))) (fun (x1 : Int) (n2 : Nat) (μ3 : Mem) => (Q x1 n2 μ3)))) : CI G Y_X7_regain [.inr v0, .inl v1] n μ Q := by
  refine e_I (by decide) (Nat.le_of_ble_eq_true rfl) ?_
  show Wa G Y_X7_regain (ZI G Y_X7_regain Q) 0 0 n μ 0 [(0, .inr v0), (1, .inl v1)] []
  refine a_aload_n (k := 0) dX7_regain_0 rfl rfl ?_
  refine a_dup dX7_regain_1 ?_
  refine g_X7_31 rfl dX7_regain_2 (St_ho hg o0) ?_
  refine a_iconst dX7_regain_5 (by decide) ?_
  refine a_iload_n (k := 1) dX7_regain_6 rfl rfl ?_
  refine a_ishl dX7_regain_7 ?_
  refine a_iconst dX7_regain_8 (by decide) ?_
  refine a_ixor dX7_regain_9 ?_
  refine a_iand dX7_regain_10 ?_
  refine p_X7_31 rfl dX7_regain_11 (St_ho hg o0) (FX_put hg o0 rfl) ?_
  refine a_aload_n (k := 0) dX7_regain_14 rfl rfl ?_
  refine a_iconst dX7_regain_15 (by decide) ?_
  refine k_X7_46 rfl dX7_regain_16 (Nat.le_of_ble_eq_true rfl) rfl (Nat.le_of_ble_eq_true rfl) (Nat.le_of_ble_eq_true rfl) (St_ho hg o0) h (fun x1 n2 μ3 h => ?_)
  exact a_iret dX7_regain_19 rfl (Nat.le_of_ble_eq_true rfl) (Nat.le_of_ble_eq_true rfl) h
theorem m_X2_forgetAll {G : GT} (hg : gx G = FX) {n : Nat} {μ : Mem} {Q : Nat → Mem → Prop}  (h : (Q n (up μ 76 3 0))) : CV G Y_X2_forgetAll [.inr 76] n μ Q := by
  refine e_V (by decide) (Nat.le_of_ble_eq_true rfl) ?_
  show Wa G Y_X2_forgetAll (ZV G Y_X2_forgetAll Q) 0 0 n μ 0 [(0, .inr 76)] []
  refine a_aload_n (k := 0) dX2_forgetAll_0 rfl rfl ?_
  refine a_iconst dX2_forgetAll_1 (by decide) ?_
  refine p_X2_28 rfl dX2_forgetAll_2 (St_ho hg St_76) (FX_put hg St_76 rfl) ?_
  exact a_ret dX2_forgetAll_5 rfl (Nat.le_of_ble_eq_true rfl) (Nat.le_of_ble_eq_true rfl) h
theorem m_X2_remember {G : GT} (hg : gx G = FX) {n : Nat} {μ : Mem} {Q : Nat → Mem → Prop} {v1 : Int} (o1 : St v1 7 5) (h : (CR G Y_X2_slotAt [.inr 76, .inl (μ 76 2)] n μ (fun (x1 : Int) (n2 : Nat) (μ3 : Mem) => (St x1 7 5) ∧ (CV G Y_X7_copyFrom [.inr x1, .inr v1] n2 μ3 (fun (n6 : Nat) (μ7 : Mem) => ((inR ((μ7 76 2) + 1)) ∧ (((0 : Int) ≤ (μ7 76 2) + 1) ∧ ((inR (((up μ7 76 2 (((μ7 76 2) + 1) % 8)) 76 3) + 1)) ∧ (Q n6 (up (up μ7 76 2 (((μ7 76 2) + 1) % 8)) 76 3 (if 8 < ((up μ7 76 2 (((μ7 76 2) + 1) % 8)) 76 3) + 1 then 8 else ((up μ7 76 2 (((μ7 76 2) + 1) % 8)) 76 3) + 1))))))))))) : CV G Y_X2_remember [.inr 76, .inr v1] n μ Q := by
  refine e_V (by decide) (Nat.le_of_ble_eq_true rfl) ?_
  show Wa G Y_X2_remember (ZV G Y_X2_remember Q) 0 0 n μ 0 [(0, .inr 76), (1, .inr v1)] []
  refine a_aload_n (k := 0) dX2_remember_0 rfl rfl ?_
  refine a_aload_n (k := 0) dX2_remember_1 rfl rfl ?_
  refine g_X2_24 rfl dX2_remember_2 (St_ho hg St_76) ?_
  refine k_X2_31 rfl dX2_remember_5 (Nat.le_of_ble_eq_true rfl) rfl (Nat.le_of_ble_eq_true rfl) (Nat.le_of_ble_eq_true rfl) (St_ho hg St_76) h (fun x1 n2 μ3 _ h => ?_)
  obtain ⟨q4, h⟩ := h
  refine a_aload_n (k := 1) dX2_remember_8 rfl rfl ?_
  refine k_X2_35 rfl dX2_remember_9 (Nat.le_of_ble_eq_true rfl) rfl (Nat.le_of_ble_eq_true rfl) (Nat.le_of_ble_eq_true rfl) (St_ho hg q4) h (fun n6 μ7 h => ?_)
  refine a_aload_n (k := 0) dX2_remember_12 rfl rfl ?_
  refine a_aload_n (k := 0) dX2_remember_13 rfl rfl ?_
  refine g_X2_24 rfl dX2_remember_14 (St_ho hg St_76) ?_
  refine a_iconst dX2_remember_17 (by decide) ?_
  obtain ⟨q8, h⟩ := h
  refine a_iadd dX2_remember_18 q8 ?_
  refine a_bipush dX2_remember_19 (by decide) (by decide) ?_
  obtain ⟨q9, h⟩ := h
  refine a_irem dX2_remember_21 q9 (by decide) ?_
  refine p_X2_24 rfl dX2_remember_22 (St_ho hg St_76) (FX_put hg St_76 rfl) ?_
  refine a_aload_n (k := 0) dX2_remember_25 rfl rfl ?_
  refine a_aload_n (k := 0) dX2_remember_26 rfl rfl ?_
  refine g_X2_28 rfl dX2_remember_27 (St_ho hg St_76) ?_
  refine a_iconst dX2_remember_30 (by decide) ?_
  obtain ⟨q10, h⟩ := h
  refine a_iadd dX2_remember_31 q10 ?_
  refine a_bipush dX2_remember_32 (by decide) (by decide) ?_
  refine k_X2_39 rfl dX2_remember_34 (Nat.le_of_ble_eq_true rfl) rfl rfl (Nat.le_of_ble_eq_true rfl) (Nat.le_of_ble_eq_true rfl) ?_
  refine p_X2_28 rfl dX2_remember_37 (St_ho hg St_76) (FX_put hg St_76 rfl) ?_
  exact a_ret dX2_remember_40 rfl (Nat.le_of_ble_eq_true rfl) (Nat.le_of_ble_eq_true rfl) h
theorem m_X2_takeBack {G : GT} (hg : gx G = FX) {n : Nat} {μ : Mem} {Q : Nat → Mem → Prop} {v1 : Int} (o1 : St v1 7 5) (h : ((inR ((μ 76 2) + 8)) ∧ ((inR (((μ 76 2) + 8) - 1)) ∧ (((0 : Int) ≤ ((μ 76 2) + 8) - 1) ∧ (CR G Y_X2_slotAt [.inr 76, .inl ((up μ 76 2 ((((μ 76 2) + 8) - 1) % 8)) 76 2)] n (up μ 76 2 ((((μ 76 2) + 8) - 1) % 8)) (fun (x4 : Int) (n5 : Nat) (μ6 : Mem) => (St x4 7 5) ∧ (CV G Y_X7_copyFrom [.inr v1, .inr x4] n5 μ6 (fun (n9 : Nat) (μ10 : Mem) => ((inR ((μ10 76 3) - 1)) ∧ (Q n9 (up μ10 76 3 ((μ10 76 3) - 1)))))))))))) : CV G Y_X2_takeBack [.inr 76, .inr v1] n μ Q := by
  refine e_V (by decide) (Nat.le_of_ble_eq_true rfl) ?_
  show Wa G Y_X2_takeBack (ZV G Y_X2_takeBack Q) 0 0 n μ 0 [(0, .inr 76), (1, .inr v1)] []
  refine a_aload_n (k := 0) dX2_takeBack_0 rfl rfl ?_
  refine a_aload_n (k := 0) dX2_takeBack_1 rfl rfl ?_
  refine g_X2_24 rfl dX2_takeBack_2 (St_ho hg St_76) ?_
  refine a_bipush dX2_takeBack_5 (by decide) (by decide) ?_
  obtain ⟨q1, h⟩ := h
  refine a_iadd dX2_takeBack_7 q1 ?_
  refine a_iconst dX2_takeBack_8 (by decide) ?_
  obtain ⟨q2, h⟩ := h
  refine a_isub dX2_takeBack_9 q2 ?_
  refine a_bipush dX2_takeBack_10 (by decide) (by decide) ?_
  obtain ⟨q3, h⟩ := h
  refine a_irem dX2_takeBack_12 q3 (by decide) ?_
  refine p_X2_24 rfl dX2_takeBack_13 (St_ho hg St_76) (FX_put hg St_76 rfl) ?_
  refine a_aload_n (k := 1) dX2_takeBack_16 rfl rfl ?_
  refine a_aload_n (k := 0) dX2_takeBack_17 rfl rfl ?_
  refine a_aload_n (k := 0) dX2_takeBack_18 rfl rfl ?_
  refine g_X2_24 rfl dX2_takeBack_19 (St_ho hg St_76) ?_
  refine k_X2_31 rfl dX2_takeBack_22 (Nat.le_of_ble_eq_true rfl) rfl (Nat.le_of_ble_eq_true rfl) (Nat.le_of_ble_eq_true rfl) (St_ho hg St_76) h (fun x4 n5 μ6 _ h => ?_)
  obtain ⟨q7, h⟩ := h
  refine k_X2_35 rfl dX2_takeBack_25 (Nat.le_of_ble_eq_true rfl) rfl (Nat.le_of_ble_eq_true rfl) (Nat.le_of_ble_eq_true rfl) (St_ho hg o1) h (fun n9 μ10 h => ?_)
  refine a_aload_n (k := 0) dX2_takeBack_28 rfl rfl ?_
  refine a_dup dX2_takeBack_29 ?_
  refine g_X2_28 rfl dX2_takeBack_30 (St_ho hg St_76) ?_
  refine a_iconst dX2_takeBack_33 (by decide) ?_
  obtain ⟨q11, h⟩ := h
  refine a_isub dX2_takeBack_34 q11 ?_
  refine p_X2_28 rfl dX2_takeBack_35 (St_ho hg St_76) (FX_put hg St_76 rfl) ?_
  exact a_ret dX2_takeBack_38 rfl (Nat.le_of_ble_eq_true rfl) (Nat.le_of_ble_eq_true rfl) h
theorem m_X2_slotAt {G : GT} (hg : gx G = FX) {n : Nat} {μ : Mem} {Q : Int → Nat → Mem → Prop} {v1 : Int}  (h : ((v1 < 0 → (((0 : Int) ≤ 77) ∧ (Q 77 n μ))) ∧ (¬ (v1 < 0) → ((v1 < 8 → (((0 : Int) ≤ v1 ∧ v1 < 8) ∧ ((¬ (106 + 1 + 29 * v1 < 0) → (((0 : Int) ≤ 106 + 1 + 29 * v1) ∧ (Q (106 + 1 + 29 * v1) n μ))) ∧ (106 + 1 + 29 * v1 < 0 → (((0 : Int) ≤ 77) ∧ (Q 77 n μ)))))) ∧ (¬ (v1 < 8) → (((0 : Int) ≤ 77) ∧ (Q 77 n μ))))))) : CR G Y_X2_slotAt [.inr 76, .inl v1] n μ Q := by
  refine e_R (by decide) (Nat.le_of_ble_eq_true rfl) ?_
  show Wa G Y_X2_slotAt (ZR G Y_X2_slotAt Q) 0 0 n μ 0 [(0, .inr 76), (1, .inl v1)] []
  refine a_iload_n (k := 1) dX2_slotAt_0 rfl rfl ?_
  refine a_if_lt (tgt := 13) dX2_slotAt_1 (by decide) (fun c1 => ?_) (fun c1 => ?_)
  · replace h := h.1 c1
    refine a_aload_n (k := 0) dX2_slotAt_13 rfl rfl ?_
    refine gs_X2_14 rfl dX2_slotAt_14 hg St_76 ?_
    obtain ⟨q2, h⟩ := h
    exact a_aret dX2_slotAt_17 rfl (Nat.le_of_ble_eq_true rfl) (Nat.le_of_ble_eq_true rfl) q2 h
  · replace h := h.2 c1
    refine a_iload_n (k := 1) dX2_slotAt_4 rfl rfl ?_
    refine a_aload_n (k := 0) dX2_slotAt_5 rfl rfl ?_
    refine gs_X2_20 rfl dX2_slotAt_6 hg St_76 ?_
    refine a_alen (N := 8) (t0 := 4) dX2_slotAt_9 (by decide) (by decide) rfl (St_ho hg St_106) ?_
    refine a_icmp_lt (tgt := 18) dX2_slotAt_10 (by decide) (fun c3 => ?_) (fun c3 => ?_)
    · replace h := h.1 c3
      refine a_aload_n (k := 0) dX2_slotAt_18 rfl rfl ?_
      refine gs_X2_20 rfl dX2_slotAt_19 hg St_76 ?_
      refine a_iload_n (k := 1) dX2_slotAt_22 rfl rfl ?_
      obtain ⟨q4, h⟩ := h
      refine a_alds24 dX2_slotAt_23 hg St_106 q4.1 q4.2 ?_
      refine b_astore_n (L' := [(0, .inr 76), (1, .inl v1), (2, .inr (106 + 1 + 29 * v1))]) [1, 2, 0] dX2_slotAt_24 rfl (by decide) rfl ?_
      refine a_aload_n (k := 2) dX2_slotAt_25 rfl rfl ?_
      refine a_ifnonnull (tgt := 36) dX2_slotAt_26 (by decide) (fun c5 => ?_) (fun c5 => ?_)
      · replace h := h.1 c5
        refine a_aload_n (k := 2) dX2_slotAt_36 rfl rfl ?_
        obtain ⟨q6, h⟩ := h
        exact a_aret dX2_slotAt_37 rfl (Nat.le_of_ble_eq_true rfl) (Nat.le_of_ble_eq_true rfl) q6 h
      · replace h := h.2 c5
        refine a_aload_n (k := 0) dX2_slotAt_29 rfl rfl ?_
        refine gs_X2_14 rfl dX2_slotAt_30 hg St_76 ?_
        refine a_goto (tgt := 37) dX2_slotAt_33 (by decide) ?_
        obtain ⟨q7, h⟩ := h
        exact a_aret dX2_slotAt_37 rfl (Nat.le_of_ble_eq_true rfl) (Nat.le_of_ble_eq_true rfl) q7 h
    · replace h := h.2 c3
      refine a_aload_n (k := 0) dX2_slotAt_13 rfl rfl ?_
      refine gs_X2_14 rfl dX2_slotAt_14 hg St_76 ?_
      obtain ⟨q8, h⟩ := h
      exact a_aret dX2_slotAt_17 rfl (Nat.le_of_ble_eq_true rfl) (Nat.le_of_ble_eq_true rfl) q8 h
end
