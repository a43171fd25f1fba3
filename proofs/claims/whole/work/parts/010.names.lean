-- PART A of the skeleton, the printed names (starting texts); the shape of the heap
/-- a private method of a class that the tables say can be made, by its rows of tables_1 -/
def lw_okq (q : MethodName × Nat) : Prop := (q.1.cls ≠ "java/lang/invoke/MethodHandle" ∧ q.1.cls ≠ "java/lang/invoke/VarHandle") ∧ Cond.instantiable q.1.cls q.2 ∈ tables_1 ∧ Cond.privateMethod q.1 ∈ tables_1 ∧ Cond.instanceMethod q.1 ∈ tables_1
theorem lw_p0 : lw_okq (⟨"ContactWays$PlanReader", "skipBlanks", "()V"⟩, 4) := ⟨⟨by decide +kernel, by decide +kernel⟩, List.mem_of_getElem? (i := 40) (by decide +kernel), List.mem_of_getElem? (i := 353) (by decide +kernel), List.mem_of_getElem? (i := 354) (by decide +kernel)⟩
theorem lw_p1 : lw_okq (⟨"ContactWays$PlanReader", "readItem", "(Z)V"⟩, 4) := ⟨⟨by decide +kernel, by decide +kernel⟩, List.mem_of_getElem? (i := 40) (by decide +kernel), List.mem_of_getElem? (i := 361) (by decide +kernel), List.mem_of_getElem? (i := 362) (by decide +kernel)⟩
theorem lw_p2 : lw_okq (⟨"ContactWays$PlanReader", "readNodes", "()V"⟩, 4) := ⟨⟨by decide +kernel, by decide +kernel⟩, List.mem_of_getElem? (i := 40) (by decide +kernel), List.mem_of_getElem? (i := 365) (by decide +kernel), List.mem_of_getElem? (i := 366) (by decide +kernel)⟩
theorem lw_p3 : lw_okq (⟨"ContactWays$PlanReader", "readNumber", "(III)I"⟩, 4) := ⟨⟨by decide +kernel, by decide +kernel⟩, List.mem_of_getElem? (i := 40) (by decide +kernel), List.mem_of_getElem? (i := 369) (by decide +kernel), List.mem_of_getElem? (i := 370) (by decide +kernel)⟩
theorem lw_p4 : lw_okq (⟨"ContactWays$PlanReader", "blame", "(I)V"⟩, 4) := ⟨⟨by decide +kernel, by decide +kernel⟩, List.mem_of_getElem? (i := 40) (by decide +kernel), List.mem_of_getElem? (i := 380) (by decide +kernel), List.mem_of_getElem? (i := 381) (by decide +kernel)⟩
theorem lw_p5 : lw_okq (⟨"ContactWays$PlanReader", "readSemicolon", "()V"⟩, 4) := ⟨⟨by decide +kernel, by decide +kernel⟩, List.mem_of_getElem? (i := 40) (by decide +kernel), List.mem_of_getElem? (i := 384) (by decide +kernel), List.mem_of_getElem? (i := 385) (by decide +kernel)⟩
theorem lw_p6 : lw_okq (⟨"ContactWays$PlanReader", "readContact", "()V"⟩, 4) := ⟨⟨by decide +kernel, by decide +kernel⟩, List.mem_of_getElem? (i := 40) (by decide +kernel), List.mem_of_getElem? (i := 392) (by decide +kernel), List.mem_of_getElem? (i := 393) (by decide +kernel)⟩
theorem lw_p7 : lw_okq (⟨"ContactWays", "isSendable", "(IIII)Z"⟩, 12) := ⟨⟨by decide +kernel, by decide +kernel⟩, List.mem_of_getElem? (i := 16) (by decide +kernel), List.mem_of_getElem? (i := 445) (by decide +kernel), List.mem_of_getElem? (i := 446) (by decide +kernel)⟩
theorem lw_p8 : lw_okq (⟨"ContactWays$History", "slotAt", "(I)LContactWays$Situation;"⟩, 4) := ⟨⟨by decide +kernel, by decide +kernel⟩, List.mem_of_getElem? (i := 256) (by decide +kernel), List.mem_of_getElem? (i := 457) (by decide +kernel), List.mem_of_getElem? (i := 458) (by decide +kernel)⟩
theorem lw_p9 : lw_okq (⟨"ContactWays$Planner", "firstOf", "(LContactWays$Situation;I)I"⟩, 1) := ⟨⟨by decide +kernel, by decide +kernel⟩, List.mem_of_getElem? (i := 172) (by decide +kernel), List.mem_of_getElem? (i := 523) (by decide +kernel), List.mem_of_getElem? (i := 524) (by decide +kernel)⟩
theorem lw_p10 : lw_okq (⟨"ContactWays$Planner", "planOne", "(LContactWays$Situation;I)Z"⟩, 1) := ⟨⟨by decide +kernel, by decide +kernel⟩, List.mem_of_getElem? (i := 172) (by decide +kernel), List.mem_of_getElem? (i := 528) (by decide +kernel), List.mem_of_getElem? (i := 529) (by decide +kernel)⟩
theorem lw_p11 : lw_okq (⟨"ContactWays$Bundle", "hopsOnTheirWay", "(I)I"⟩, 9) := ⟨⟨by decide +kernel, by decide +kernel⟩, List.mem_of_getElem? (i := 188) (by decide +kernel), List.mem_of_getElem? (i := 536) (by decide +kernel), List.mem_of_getElem? (i := 537) (by decide +kernel)⟩
theorem lw_p12 : lw_okq (⟨"ContactWays$Router", "openWindows", "(LContactWays$Situation;)V"⟩, 8) := ⟨⟨by decide +kernel, by decide +kernel⟩, List.mem_of_getElem? (i := 117) (by decide +kernel), List.mem_of_getElem? (i := 549) (by decide +kernel), List.mem_of_getElem? (i := 550) (by decide +kernel)⟩
theorem lw_p13 : lw_okq (⟨"ContactWays$Router", "closeTicks", "(LContactWays$Table;I)V"⟩, 8) := ⟨⟨by decide +kernel, by decide +kernel⟩, List.mem_of_getElem? (i := 117) (by decide +kernel), List.mem_of_getElem? (i := 561) (by decide +kernel), List.mem_of_getElem? (i := 562) (by decide +kernel)⟩
theorem lw_p14 : lw_okq (⟨"ContactWays$Router", "countRuns", "()V"⟩, 8) := ⟨⟨by decide +kernel, by decide +kernel⟩, List.mem_of_getElem? (i := 117) (by decide +kernel), List.mem_of_getElem? (i := 565) (by decide +kernel), List.mem_of_getElem? (i := 566) (by decide +kernel)⟩
theorem lw_p15 : lw_okq (⟨"ContactWays$Router", "firstBegin", "(III)I"⟩, 8) := ⟨⟨by decide +kernel, by decide +kernel⟩, List.mem_of_getElem? (i := 117) (by decide +kernel), List.mem_of_getElem? (i := 580) (by decide +kernel), List.mem_of_getElem? (i := 581) (by decide +kernel)⟩
def lw_privs_1 : List (MethodName × Nat) := [(⟨"ContactWays$PlanReader", "skipBlanks", "()V"⟩, 4), (⟨"ContactWays$PlanReader", "readItem", "(Z)V"⟩, 4), (⟨"ContactWays$PlanReader", "readNodes", "()V"⟩, 4), (⟨"ContactWays$PlanReader", "readNumber", "(III)I"⟩, 4), (⟨"ContactWays$PlanReader", "blame", "(I)V"⟩, 4), (⟨"ContactWays$PlanReader", "readSemicolon", "()V"⟩, 4), (⟨"ContactWays$PlanReader", "readContact", "()V"⟩, 4), (⟨"ContactWays", "isSendable", "(IIII)Z"⟩, 12), (⟨"ContactWays$History", "slotAt", "(I)LContactWays$Situation;"⟩, 4), (⟨"ContactWays$Planner", "firstOf", "(LContactWays$Situation;I)I"⟩, 1), (⟨"ContactWays$Planner", "planOne", "(LContactWays$Situation;I)Z"⟩, 1), (⟨"ContactWays$Bundle", "hopsOnTheirWay", "(I)I"⟩, 9), (⟨"ContactWays$Router", "openWindows", "(LContactWays$Situation;)V"⟩, 8), (⟨"ContactWays$Router", "closeTicks", "(LContactWays$Table;I)V"⟩, 8), (⟨"ContactWays$Router", "countRuns", "()V"⟩, 8), (⟨"ContactWays$Router", "firstBegin", "(III)I"⟩, 8)]
theorem lw_r1 : ∀ q ∈ lw_privs_1, lw_okq q := List.forall_mem_cons.mpr ⟨lw_p0, List.forall_mem_cons.mpr ⟨lw_p1, List.forall_mem_cons.mpr ⟨lw_p2, List.forall_mem_cons.mpr ⟨lw_p3, List.forall_mem_cons.mpr ⟨lw_p4, List.forall_mem_cons.mpr ⟨lw_p5, List.forall_mem_cons.mpr ⟨lw_p6, List.forall_mem_cons.mpr ⟨lw_p7, List.forall_mem_cons.mpr ⟨lw_p8, List.forall_mem_cons.mpr ⟨lw_p9, List.forall_mem_cons.mpr ⟨lw_p10, List.forall_mem_cons.mpr ⟨lw_p11, List.forall_mem_cons.mpr ⟨lw_p12, List.forall_mem_cons.mpr ⟨lw_p13, List.forall_mem_cons.mpr ⟨lw_p14, List.forall_mem_cons.mpr ⟨lw_p15, fun _ h => absurd h List.not_mem_nil⟩⟩⟩⟩⟩⟩⟩⟩⟩⟩⟩⟩⟩⟩⟩⟩
theorem lw_p16 : lw_okq (⟨"ContactWays$Router", "setTrail", "(IIIII)V"⟩, 8) := ⟨⟨by decide +kernel, by decide +kernel⟩, List.mem_of_getElem? (i := 117) (by decide +kernel), List.mem_of_getElem? (i := 584) (by decide +kernel), List.mem_of_getElem? (i := 585) (by decide +kernel)⟩
theorem lw_p17 : lw_okq (⟨"ContactWays$Planner", "pushOut", "(LContactWays$Situation;I)I"⟩, 1) := ⟨⟨by decide +kernel, by decide +kernel⟩, List.mem_of_getElem? (i := 172) (by decide +kernel), List.mem_of_getElem? (i := 590) (by decide +kernel), List.mem_of_getElem? (i := 591) (by decide +kernel)⟩
theorem lw_p18 : lw_okq (⟨"ContactWays", "predict", "(IIII)I"⟩, 12) := ⟨⟨by decide +kernel, by decide +kernel⟩, List.mem_of_getElem? (i := 16) (by decide +kernel), List.mem_of_getElem? (i := 708) (by decide +kernel), List.mem_of_getElem? (i := 709) (by decide +kernel)⟩
theorem lw_p19 : lw_okq (⟨"ContactWays", "explainsAll", "(I)Z"⟩, 12) := ⟨⟨by decide +kernel, by decide +kernel⟩, List.mem_of_getElem? (i := 16) (by decide +kernel), List.mem_of_getElem? (i := 736) (by decide +kernel), List.mem_of_getElem? (i := 737) (by decide +kernel)⟩
theorem lw_p20 : lw_okq (⟨"ContactWays", "imageAt", "(I)LContactWays$Situation;"⟩, 12) := ⟨⟨by decide +kernel, by decide +kernel⟩, List.mem_of_getElem? (i := 16) (by decide +kernel), List.mem_of_getElem? (i := 744) (by decide +kernel), List.mem_of_getElem? (i := 745) (by decide +kernel)⟩
theorem lw_p21 : lw_okq (⟨"ContactWaysModel", "begins", "()V"⟩, 28) := ⟨⟨by decide +kernel, by decide +kernel⟩, List.mem_of_getElem? (i := 756) (by decide +kernel), List.mem_of_getElem? (i := 762) (by decide +kernel), List.mem_of_getElem? (i := 763) (by decide +kernel)⟩
theorem lw_p22 : lw_okq (⟨"ContactWaysModel", "becomes", "()V"⟩, 28) := ⟨⟨by decide +kernel, by decide +kernel⟩, List.mem_of_getElem? (i := 756) (by decide +kernel), List.mem_of_getElem? (i := 766) (by decide +kernel), List.mem_of_getElem? (i := 767) (by decide +kernel)⟩
theorem lw_p23 : lw_okq (⟨"ContactWaysModel", "takes", "()V"⟩, 28) := ⟨⟨by decide +kernel, by decide +kernel⟩, List.mem_of_getElem? (i := 756) (by decide +kernel), List.mem_of_getElem? (i := 871) (by decide +kernel), List.mem_of_getElem? (i := 872) (by decide +kernel)⟩
theorem lw_p24 : lw_okq (⟨"ContactWaysModel", "isFigure", "(I)Z"⟩, 28) := ⟨⟨by decide +kernel, by decide +kernel⟩, List.mem_of_getElem? (i := 756) (by decide +kernel), List.mem_of_getElem? (i := 875) (by decide +kernel), List.mem_of_getElem? (i := 876) (by decide +kernel)⟩
theorem lw_p25 : lw_okq (⟨"ContactWaysModel", "readsNodes", "(I)Z"⟩, 28) := ⟨⟨by decide +kernel, by decide +kernel⟩, List.mem_of_getElem? (i := 756) (by decide +kernel), List.mem_of_getElem? (i := 879) (by decide +kernel), List.mem_of_getElem? (i := 880) (by decide +kernel)⟩
theorem lw_p26 : lw_okq (⟨"ContactWaysModel", "readsContact", "()Z"⟩, 28) := ⟨⟨by decide +kernel, by decide +kernel⟩, List.mem_of_getElem? (i := 756) (by decide +kernel), List.mem_of_getElem? (i := 883) (by decide +kernel), List.mem_of_getElem? (i := 884) (by decide +kernel)⟩
theorem lw_p27 : lw_okq (⟨"ContactWaysModel", "reads", "(III)Z"⟩, 28) := ⟨⟨by decide +kernel, by decide +kernel⟩, List.mem_of_getElem? (i := 756) (by decide +kernel), List.mem_of_getElem? (i := 887) (by decide +kernel), List.mem_of_getElem? (i := 888) (by decide +kernel)⟩
theorem lw_p28 : lw_okq (⟨"ContactWaysModel", "isContact", "(I)Z"⟩, 28) := ⟨⟨by decide +kernel, by decide +kernel⟩, List.mem_of_getElem? (i := 756) (by decide +kernel), List.mem_of_getElem? (i := 895) (by decide +kernel), List.mem_of_getElem? (i := 896) (by decide +kernel)⟩
theorem lw_p29 : lw_okq (⟨"ContactWaysModel", "isMissed", "(I)Z"⟩, 28) := ⟨⟨by decide +kernel, by decide +kernel⟩, List.mem_of_getElem? (i := 756) (by decide +kernel), List.mem_of_getElem? (i := 899) (by decide +kernel), List.mem_of_getElem? (i := 900) (by decide +kernel)⟩
theorem lw_p30 : lw_okq (⟨"ContactWaysModel", "isNode", "(I)Z"⟩, 28) := ⟨⟨by decide +kernel, by decide +kernel⟩, List.mem_of_getElem? (i := 756) (by decide +kernel), List.mem_of_getElem? (i := 907) (by decide +kernel), List.mem_of_getElem? (i := 908) (by decide +kernel)⟩
theorem lw_p31 : lw_okq (⟨"ContactWaysModel", "notes", "()V"⟩, 28) := ⟨⟨by decide +kernel, by decide +kernel⟩, List.mem_of_getElem? (i := 756) (by decide +kernel), List.mem_of_getElem? (i := 911) (by decide +kernel), List.mem_of_getElem? (i := 912) (by decide +kernel)⟩
def lw_privs_2 : List (MethodName × Nat) := [(⟨"ContactWays$Router", "setTrail", "(IIIII)V"⟩, 8), (⟨"ContactWays$Planner", "pushOut", "(LContactWays$Situation;I)I"⟩, 1), (⟨"ContactWays", "predict", "(IIII)I"⟩, 12), (⟨"ContactWays", "explainsAll", "(I)Z"⟩, 12), (⟨"ContactWays", "imageAt", "(I)LContactWays$Situation;"⟩, 12), (⟨"ContactWaysModel", "begins", "()V"⟩, 28), (⟨"ContactWaysModel", "becomes", "()V"⟩, 28), (⟨"ContactWaysModel", "takes", "()V"⟩, 28), (⟨"ContactWaysModel", "isFigure", "(I)Z"⟩, 28), (⟨"ContactWaysModel", "readsNodes", "(I)Z"⟩, 28), (⟨"ContactWaysModel", "readsContact", "()Z"⟩, 28), (⟨"ContactWaysModel", "reads", "(III)Z"⟩, 28), (⟨"ContactWaysModel", "isContact", "(I)Z"⟩, 28), (⟨"ContactWaysModel", "isMissed", "(I)Z"⟩, 28), (⟨"ContactWaysModel", "isNode", "(I)Z"⟩, 28), (⟨"ContactWaysModel", "notes", "()V"⟩, 28)]
theorem lw_r2 : ∀ q ∈ lw_privs_2, lw_okq q := List.forall_mem_cons.mpr ⟨lw_p16, List.forall_mem_cons.mpr ⟨lw_p17, List.forall_mem_cons.mpr ⟨lw_p18, List.forall_mem_cons.mpr ⟨lw_p19, List.forall_mem_cons.mpr ⟨lw_p20, List.forall_mem_cons.mpr ⟨lw_p21, List.forall_mem_cons.mpr ⟨lw_p22, List.forall_mem_cons.mpr ⟨lw_p23, List.forall_mem_cons.mpr ⟨lw_p24, List.forall_mem_cons.mpr ⟨lw_p25, List.forall_mem_cons.mpr ⟨lw_p26, List.forall_mem_cons.mpr ⟨lw_p27, List.forall_mem_cons.mpr ⟨lw_p28, List.forall_mem_cons.mpr ⟨lw_p29, List.forall_mem_cons.mpr ⟨lw_p30, List.forall_mem_cons.mpr ⟨lw_p31, fun _ h => absurd h List.not_mem_nil⟩⟩⟩⟩⟩⟩⟩⟩⟩⟩⟩⟩⟩⟩⟩⟩
theorem lw_p32 : lw_okq (⟨"ContactWaysModel", "copies", "([I[III)V"⟩, 28) := ⟨⟨by decide +kernel, by decide +kernel⟩, List.mem_of_getElem? (i := 756) (by decide +kernel), List.mem_of_getElem? (i := 915) (by decide +kernel), List.mem_of_getElem? (i := 916) (by decide +kernel)⟩
theorem lw_p33 : lw_okq (⟨"ContactWaysModel", "plansAll", "(I)V"⟩, 28) := ⟨⟨by decide +kernel, by decide +kernel⟩, List.mem_of_getElem? (i := 756) (by decide +kernel), List.mem_of_getElem? (i := 922) (by decide +kernel), List.mem_of_getElem? (i := 923) (by decide +kernel)⟩
theorem lw_p34 : lw_okq (⟨"ContactWaysModel", "its", "(II)I"⟩, 28) := ⟨⟨by decide +kernel, by decide +kernel⟩, List.mem_of_getElem? (i := 756) (by decide +kernel), List.mem_of_getElem? (i := 929) (by decide +kernel), List.mem_of_getElem? (i := 930) (by decide +kernel)⟩
theorem lw_p35 : lw_okq (⟨"ContactWaysModel", "plans", "(I)I"⟩, 28) := ⟨⟨by decide +kernel, by decide +kernel⟩, List.mem_of_getElem? (i := 756) (by decide +kernel), List.mem_of_getElem? (i := 933) (by decide +kernel), List.mem_of_getElem? (i := 934) (by decide +kernel)⟩
theorem lw_p36 : lw_okq (⟨"ContactWaysModel", "givesUp", "(I)V"⟩, 28) := ⟨⟨by decide +kernel, by decide +kernel⟩, List.mem_of_getElem? (i := 756) (by decide +kernel), List.mem_of_getElem? (i := 937) (by decide +kernel), List.mem_of_getElem? (i := 938) (by decide +kernel)⟩
theorem lw_p37 : lw_okq (⟨"ContactWaysModel", "stateOf", "(I)I"⟩, 28) := ⟨⟨by decide +kernel, by decide +kernel⟩, List.mem_of_getElem? (i := 756) (by decide +kernel), List.mem_of_getElem? (i := 941) (by decide +kernel), List.mem_of_getElem? (i := 942) (by decide +kernel)⟩
theorem lw_p38 : lw_okq (⟨"ContactWaysModel", "isOn", "(I)Z"⟩, 28) := ⟨⟨by decide +kernel, by decide +kernel⟩, List.mem_of_getElem? (i := 756) (by decide +kernel), List.mem_of_getElem? (i := 945) (by decide +kernel), List.mem_of_getElem? (i := 946) (by decide +kernel)⟩
theorem lw_p39 : lw_okq (⟨"ContactWaysModel", "leads", "(I)I"⟩, 28) := ⟨⟨by decide +kernel, by decide +kernel⟩, List.mem_of_getElem? (i := 756) (by decide +kernel), List.mem_of_getElem? (i := 949) (by decide +kernel), List.mem_of_getElem? (i := 950) (by decide +kernel)⟩
theorem lw_p40 : lw_okq (⟨"ContactWaysModel", "arrival", "(III)I"⟩, 28) := ⟨⟨by decide +kernel, by decide +kernel⟩, List.mem_of_getElem? (i := 756) (by decide +kernel), List.mem_of_getElem? (i := 953) (by decide +kernel), List.mem_of_getElem? (i := 954) (by decide +kernel)⟩
theorem lw_p41 : lw_okq (⟨"ContactWaysModel", "ticks", "(II)I"⟩, 28) := ⟨⟨by decide +kernel, by decide +kernel⟩, List.mem_of_getElem? (i := 756) (by decide +kernel), List.mem_of_getElem? (i := 957) (by decide +kernel), List.mem_of_getElem? (i := 958) (by decide +kernel)⟩
theorem lw_p42 : lw_okq (⟨"ContactWaysModel", "laysTaken", "(II)V"⟩, 28) := ⟨⟨by decide +kernel, by decide +kernel⟩, List.mem_of_getElem? (i := 756) (by decide +kernel), List.mem_of_getElem? (i := 961) (by decide +kernel), List.mem_of_getElem? (i := 962) (by decide +kernel)⟩
theorem lw_p43 : lw_okq (⟨"ContactWaysModel", "marks", "(III)V"⟩, 28) := ⟨⟨by decide +kernel, by decide +kernel⟩, List.mem_of_getElem? (i := 756) (by decide +kernel), List.mem_of_getElem? (i := 965) (by decide +kernel), List.mem_of_getElem? (i := 966) (by decide +kernel)⟩
theorem lw_p44 : lw_okq (⟨"ContactWaysModel", "findsEnd", "(IIIII)Z"⟩, 28) := ⟨⟨by decide +kernel, by decide +kernel⟩, List.mem_of_getElem? (i := 756) (by decide +kernel), List.mem_of_getElem? (i := 969) (by decide +kernel), List.mem_of_getElem? (i := 970) (by decide +kernel)⟩
theorem lw_p45 : lw_okq (⟨"ContactWaysModel", "laysFirst", "(IIIII)V"⟩, 28) := ⟨⟨by decide +kernel, by decide +kernel⟩, List.mem_of_getElem? (i := 756) (by decide +kernel), List.mem_of_getElem? (i := 973) (by decide +kernel), List.mem_of_getElem? (i := 974) (by decide +kernel)⟩
theorem lw_p46 : lw_okq (⟨"ContactWaysModel", "endsAt", "(III)I"⟩, 28) := ⟨⟨by decide +kernel, by decide +kernel⟩, List.mem_of_getElem? (i := 756) (by decide +kernel), List.mem_of_getElem? (i := 977) (by decide +kernel), List.mem_of_getElem? (i := 978) (by decide +kernel)⟩
theorem lw_p47 : lw_okq (⟨"ContactWaysModel", "beginsAt", "(III)I"⟩, 28) := ⟨⟨by decide +kernel, by decide +kernel⟩, List.mem_of_getElem? (i := 756) (by decide +kernel), List.mem_of_getElem? (i := 981) (by decide +kernel), List.mem_of_getElem? (i := 982) (by decide +kernel)⟩
def lw_privs_3 : List (MethodName × Nat) := [(⟨"ContactWaysModel", "copies", "([I[III)V"⟩, 28), (⟨"ContactWaysModel", "plansAll", "(I)V"⟩, 28), (⟨"ContactWaysModel", "its", "(II)I"⟩, 28), (⟨"ContactWaysModel", "plans", "(I)I"⟩, 28), (⟨"ContactWaysModel", "givesUp", "(I)V"⟩, 28), (⟨"ContactWaysModel", "stateOf", "(I)I"⟩, 28), (⟨"ContactWaysModel", "isOn", "(I)Z"⟩, 28), (⟨"ContactWaysModel", "leads", "(I)I"⟩, 28), (⟨"ContactWaysModel", "arrival", "(III)I"⟩, 28), (⟨"ContactWaysModel", "ticks", "(II)I"⟩, 28), (⟨"ContactWaysModel", "laysTaken", "(II)V"⟩, 28), (⟨"ContactWaysModel", "marks", "(III)V"⟩, 28), (⟨"ContactWaysModel", "findsEnd", "(IIIII)Z"⟩, 28), (⟨"ContactWaysModel", "laysFirst", "(IIIII)V"⟩, 28), (⟨"ContactWaysModel", "endsAt", "(III)I"⟩, 28), (⟨"ContactWaysModel", "beginsAt", "(III)I"⟩, 28)]
theorem lw_r3 : ∀ q ∈ lw_privs_3, lw_okq q := List.forall_mem_cons.mpr ⟨lw_p32, List.forall_mem_cons.mpr ⟨lw_p33, List.forall_mem_cons.mpr ⟨lw_p34, List.forall_mem_cons.mpr ⟨lw_p35, List.forall_mem_cons.mpr ⟨lw_p36, List.forall_mem_cons.mpr ⟨lw_p37, List.forall_mem_cons.mpr ⟨lw_p38, List.forall_mem_cons.mpr ⟨lw_p39, List.forall_mem_cons.mpr ⟨lw_p40, List.forall_mem_cons.mpr ⟨lw_p41, List.forall_mem_cons.mpr ⟨lw_p42, List.forall_mem_cons.mpr ⟨lw_p43, List.forall_mem_cons.mpr ⟨lw_p44, List.forall_mem_cons.mpr ⟨lw_p45, List.forall_mem_cons.mpr ⟨lw_p46, List.forall_mem_cons.mpr ⟨lw_p47, fun _ h => absurd h List.not_mem_nil⟩⟩⟩⟩⟩⟩⟩⟩⟩⟩⟩⟩⟩⟩⟩⟩
theorem lw_p48 : lw_okq (⟨"ContactWaysModel", "findsWay", "(IIII)V"⟩, 28) := ⟨⟨by decide +kernel, by decide +kernel⟩, List.mem_of_getElem? (i := 756) (by decide +kernel), List.mem_of_getElem? (i := 985) (by decide +kernel), List.mem_of_getElem? (i := 986) (by decide +kernel)⟩
theorem lw_p49 : lw_okq (⟨"ContactWaysModel", "leadsThere", "(IIIIII)Z"⟩, 28) := ⟨⟨by decide +kernel, by decide +kernel⟩, List.mem_of_getElem? (i := 756) (by decide +kernel), List.mem_of_getElem? (i := 989) (by decide +kernel), List.mem_of_getElem? (i := 990) (by decide +kernel)⟩
theorem lw_p50 : lw_okq (⟨"ContactWaysModel", "pushesOut", "(I)I"⟩, 28) := ⟨⟨by decide +kernel, by decide +kernel⟩, List.mem_of_getElem? (i := 756) (by decide +kernel), List.mem_of_getElem? (i := 993) (by decide +kernel), List.mem_of_getElem? (i := 994) (by decide +kernel)⟩
theorem lw_p51 : lw_okq (⟨"ContactWaysModel", "meets", "(IIII)Z"⟩, 28) := ⟨⟨by decide +kernel, by decide +kernel⟩, List.mem_of_getElem? (i := 756) (by decide +kernel), List.mem_of_getElem? (i := 997) (by decide +kernel), List.mem_of_getElem? (i := 998) (by decide +kernel)⟩
theorem lw_p52 : lw_okq (⟨"ContactWaysModel", "lastEnd", "(I)I"⟩, 28) := ⟨⟨by decide +kernel, by decide +kernel⟩, List.mem_of_getElem? (i := 756) (by decide +kernel), List.mem_of_getElem? (i := 1001) (by decide +kernel), List.mem_of_getElem? (i := 1002) (by decide +kernel)⟩
theorem lw_p53 : lw_okq (⟨"ContactWaysModel", "isBundle", "(I)Z"⟩, 28) := ⟨⟨by decide +kernel, by decide +kernel⟩, List.mem_of_getElem? (i := 756) (by decide +kernel), List.mem_of_getElem? (i := 1009) (by decide +kernel), List.mem_of_getElem? (i := 1010) (by decide +kernel)⟩
theorem lw_p54 : lw_okq (⟨"ContactWaysModel", "moves", "(I)V"⟩, 28) := ⟨⟨by decide +kernel, by decide +kernel⟩, List.mem_of_getElem? (i := 756) (by decide +kernel), List.mem_of_getElem? (i := 1017) (by decide +kernel), List.mem_of_getElem? (i := 1018) (by decide +kernel)⟩
theorem lw_p55 : lw_okq (⟨"ContactWaysModel", "loses", "(I)V"⟩, 28) := ⟨⟨by decide +kernel, by decide +kernel⟩, List.mem_of_getElem? (i := 756) (by decide +kernel), List.mem_of_getElem? (i := 1025) (by decide +kernel), List.mem_of_getElem? (i := 1026) (by decide +kernel)⟩
theorem lw_p56 : lw_okq (⟨"ContactWaysModel", "hasHopOn", "(II)Z"⟩, 28) := ⟨⟨by decide +kernel, by decide +kernel⟩, List.mem_of_getElem? (i := 756) (by decide +kernel), List.mem_of_getElem? (i := 1029) (by decide +kernel), List.mem_of_getElem? (i := 1030) (by decide +kernel)⟩
theorem lw_p57 : lw_okq (⟨"ContactWaysModel", "countOf", "(I)I"⟩, 28) := ⟨⟨by decide +kernel, by decide +kernel⟩, List.mem_of_getElem? (i := 756) (by decide +kernel), List.mem_of_getElem? (i := 1033) (by decide +kernel), List.mem_of_getElem? (i := 1034) (by decide +kernel)⟩
theorem lw_p58 : lw_okq (⟨"ContactWaysModel", "takesTick", "(IIII)Z"⟩, 28) := ⟨⟨by decide +kernel, by decide +kernel⟩, List.mem_of_getElem? (i := 756) (by decide +kernel), List.mem_of_getElem? (i := 1057) (by decide +kernel), List.mem_of_getElem? (i := 1058) (by decide +kernel)⟩
theorem lw_p59 : lw_okq (⟨"ContactWaysModel", "askedOf", "(IIIII)I"⟩, 28) := ⟨⟨by decide +kernel, by decide +kernel⟩, List.mem_of_getElem? (i := 756) (by decide +kernel), List.mem_of_getElem? (i := 1065) (by decide +kernel), List.mem_of_getElem? (i := 1066) (by decide +kernel)⟩
def lw_privs_4 : List (MethodName × Nat) := [(⟨"ContactWaysModel", "findsWay", "(IIII)V"⟩, 28), (⟨"ContactWaysModel", "leadsThere", "(IIIIII)Z"⟩, 28), (⟨"ContactWaysModel", "pushesOut", "(I)I"⟩, 28), (⟨"ContactWaysModel", "meets", "(IIII)Z"⟩, 28), (⟨"ContactWaysModel", "lastEnd", "(I)I"⟩, 28), (⟨"ContactWaysModel", "isBundle", "(I)Z"⟩, 28), (⟨"ContactWaysModel", "moves", "(I)V"⟩, 28), (⟨"ContactWaysModel", "loses", "(I)V"⟩, 28), (⟨"ContactWaysModel", "hasHopOn", "(II)Z"⟩, 28), (⟨"ContactWaysModel", "countOf", "(I)I"⟩, 28), (⟨"ContactWaysModel", "takesTick", "(IIII)Z"⟩, 28), (⟨"ContactWaysModel", "askedOf", "(IIIII)I"⟩, 28)]
theorem lw_r4 : ∀ q ∈ lw_privs_4, lw_okq q := List.forall_mem_cons.mpr ⟨lw_p48, List.forall_mem_cons.mpr ⟨lw_p49, List.forall_mem_cons.mpr ⟨lw_p50, List.forall_mem_cons.mpr ⟨lw_p51, List.forall_mem_cons.mpr ⟨lw_p52, List.forall_mem_cons.mpr ⟨lw_p53, List.forall_mem_cons.mpr ⟨lw_p54, List.forall_mem_cons.mpr ⟨lw_p55, List.forall_mem_cons.mpr ⟨lw_p56, List.forall_mem_cons.mpr ⟨lw_p57, List.forall_mem_cons.mpr ⟨lw_p58, List.forall_mem_cons.mpr ⟨lw_p59, fun _ h => absurd h List.not_mem_nil⟩⟩⟩⟩⟩⟩⟩⟩⟩⟩⟩⟩
def lw_privs : List (MethodName × Nat) := lw_privs_1 ++ (lw_privs_2 ++ (lw_privs_3 ++ (lw_privs_4)))
def lw_tbl : List Cond := k2_sels lw_privs ++ tables_1
theorem lw_privs_ok : ∀ q ∈ lw_privs, lw_okq q := by
  show ∀ q ∈ lw_privs_1 ++ (lw_privs_2 ++ (lw_privs_3 ++ (lw_privs_4))), lw_okq q
  exact List.forall_mem_append.mpr ⟨lw_r1, List.forall_mem_append.mpr ⟨lw_r2, List.forall_mem_append.mpr ⟨lw_r3, lw_r4⟩⟩⟩
def RX0 : String := "ContactWays$Bundle"
def TX0 : u_T := fun k => match k with
  | 0 => ("ContactWays$Bundle", "network", "LContactWays$Network;", true)
  | 1 => ("ContactWays$Bundle", "hops", "LContactWays$Table;", true)
  | 2 => ("ContactWays$Bundle", "node", "I", false)
  | 3 => ("ContactWays$Bundle", "goal", "I", false)
  | 4 => ("ContactWays$Bundle", "size", "I", false)
  | 5 => ("ContactWays$Bundle", "deadline", "I", false)
  | 6 => ("ContactWays$Bundle", "priority", "I", false)
  | 7 => ("ContactWays$Bundle", "dropped", "Z", false)
  | _ => ("ContactWays$Bundle", "reason", "I", false)
def tyX0 : Nat → FieldType := fun k => match k with
  | 0 => .object "ContactWays$Network"
  | 1 => .object "ContactWays$Table"
  | 2 => .int
  | 3 => .int
  | 4 => .int
  | 5 => .int
  | 6 => .int
  | 7 => .boolean
  | _ => .int
abbrev wsX00 : List Cond := u_ws RX0 TX0 9
theorem nmX0 : ∀ a, a < 9 → ∀ b, b < 9 → a ≠ b → (TX0 a).2.1 ≠ (TX0 b).2.1 := by decide +kernel
theorem tyX0_ok : ∀ k, k < 9 → parseFieldDescriptor (TX0 k).2.2.1 = some (tyX0 k) := by decide +kernel
abbrev cX0_init : ByteArray := prog_2_method_1_code
def yX0_init : MethodName := ⟨RX0, "<init>", "(LContactWays$Network;)V"⟩
abbrev cX0_start : ByteArray := prog_2_method_2_code
def yX0_start : MethodName := ⟨RX0, "start", "(IIIII)V"⟩
abbrev cX0_copyFrom : ByteArray := prog_2_method_3_code
def yX0_copyFrom : MethodName := ⟨RX0, "copyFrom", "(LContactWays$Bundle;)V"⟩
abbrev cX0_standing : ByteArray := prog_2_method_4_code
def yX0_standing : MethodName := ⟨RX0, "standing", "(I)I"⟩
abbrev cX0_lastNode : ByteArray := prog_2_method_5_code
def yX0_lastNode : MethodName := ⟨RX0, "lastNode", "()I"⟩
abbrev cX0_lastThere : ByteArray := prog_2_method_6_code
def yX0_lastThere : MethodName := ⟨RX0, "lastThere", "()I"⟩
abbrev cX0_property : ByteArray := prog_2_method_7_code
def yX0_property : MethodName := ⟨RX0, "property", "(II)I"⟩
abbrev cX0_drop : ByteArray := prog_2_method_8_code
def yX0_drop : MethodName := ⟨RX0, "drop", "(I)V"⟩
abbrev cX0_giveUpHopsToCome : ByteArray := prog_2_method_9_code
def yX0_giveUpHopsToCome : MethodName := ⟨RX0, "giveUpHopsToCome", "(I)V"⟩
abbrev cX0_hopsOnTheirWay : ByteArray := prog_2_method_10_code
def yX0_hopsOnTheirWay : MethodName := ⟨RX0, "hopsOnTheirWay", "(I)I"⟩
abbrev cX0_arrive : ByteArray := prog_2_method_11_code
def yX0_arrive : MethodName := ⟨RX0, "arrive", "(I)V"⟩
abbrev cX0_loses : ByteArray := prog_2_method_12_code
def yX0_loses : MethodName := ⟨RX0, "loses", "(II)Z"⟩
abbrev cX0_takes : ByteArray := prog_2_method_13_code
def yX0_takes : MethodName := ⟨RX0, "takes", "(II)Z"⟩
abbrev cX0_standsInTheWayOf : ByteArray := prog_2_method_14_code
def yX0_standsInTheWayOf : MethodName := ⟨RX0, "standsInTheWayOf", "(LContactWays$Bundle;I)Z"⟩
def RX1 : String := "ContactWays$Contact"
def TX1 : u_T := fun k => match k with
  | 0 => ("ContactWays$Contact", "from", "I", true)
  | 1 => ("ContactWays$Contact", "to", "I", true)
  | 2 => ("ContactWays$Contact", "start", "I", true)
  | 3 => ("ContactWays$Contact", "end", "I", true)
  | 4 => ("ContactWays$Contact", "rate", "I", true)
  | _ => ("ContactWays$Contact", "light", "I", true)
def tyX1 : Nat → FieldType := fun k => match k with
  | 0 => .int
  | 1 => .int
  | 2 => .int
  | 3 => .int
  | 4 => .int
  | _ => .int
abbrev wsX10 : List Cond := u_ws RX1 TX1 6
theorem nmX1 : ∀ a, a < 6 → ∀ b, b < 6 → a ≠ b → (TX1 a).2.1 ≠ (TX1 b).2.1 := by decide +kernel
theorem tyX1_ok : ∀ k, k < 6 → parseFieldDescriptor (TX1 k).2.2.1 = some (tyX1 k) := by decide +kernel
abbrev cX1_init : ByteArray := prog_3_method_1_code
def yX1_init : MethodName := ⟨RX1, "<init>", "(IIIIII)V"⟩
abbrev cX1_ticksFor : ByteArray := prog_3_method_2_code
def yX1_ticksFor : MethodName := ⟨RX1, "ticksFor", "(I)I"⟩
abbrev cX1_property : ByteArray := prog_3_method_3_code
def yX1_property : MethodName := ⟨RX1, "property", "(I)I"⟩
def RX2 : String := "ContactWays$History"
def TX2 : u_T := fun k => match k with
  | 0 => ("ContactWays$History", "spare", "LContactWays$Situation;", true)
  | 1 => ("ContactWays$History", "slots", "[LContactWays$Situation;", true)
  | 2 => ("ContactWays$History", "next", "I", false)
  | _ => ("ContactWays$History", "kept", "I", false)
def tyX2 : Nat → FieldType := fun k => match k with
  | 0 => .object "ContactWays$Situation"
  | 1 => .array (.object "ContactWays$Situation")
  | 2 => .int
  | _ => .int
abbrev wsX20 : List Cond := u_ws RX2 TX2 4
theorem nmX2 : ∀ a, a < 4 → ∀ b, b < 4 → a ≠ b → (TX2 a).2.1 ≠ (TX2 b).2.1 := by decide +kernel
theorem tyX2_ok : ∀ k, k < 4 → parseFieldDescriptor (TX2 k).2.2.1 = some (tyX2 k) := by decide +kernel
abbrev cX2_init : ByteArray := prog_4_method_1_code
def yX2_init : MethodName := ⟨RX2, "<init>", "(LContactWays$Network;)V"⟩
abbrev cX2_forgetAll : ByteArray := prog_4_method_2_code
def yX2_forgetAll : MethodName := ⟨RX2, "forgetAll", "()V"⟩
abbrev cX2_remember : ByteArray := prog_4_method_3_code
def yX2_remember : MethodName := ⟨RX2, "remember", "(LContactWays$Situation;)V"⟩
abbrev cX2_takeBack : ByteArray := prog_4_method_4_code
def yX2_takeBack : MethodName := ⟨RX2, "takeBack", "(LContactWays$Situation;)V"⟩
abbrev cX2_slotAt : ByteArray := prog_4_method_5_code
def yX2_slotAt : MethodName := ⟨RX2, "slotAt", "(I)LContactWays$Situation;"⟩
def RX3 : String := "ContactWays$Network"
def TX3 : u_T := fun k => match k with
  | 0 => ("ContactWays$Network", "nowhere", "LContactWays$Contact;", true)
  | 1 => ("ContactWays$Network", "contacts", "[LContactWays$Contact;", true)
  | 2 => ("ContactWays$Network", "contactCount", "I", false)
  | _ => ("ContactWays$Network", "nodes", "I", false)
def tyX3 : Nat → FieldType := fun k => match k with
  | 0 => .object "ContactWays$Contact"
  | 1 => .array (.object "ContactWays$Contact")
  | 2 => .int
  | _ => .int
abbrev wsX30 : List Cond := u_ws RX3 TX3 4
theorem nmX3 : ∀ a, a < 4 → ∀ b, b < 4 → a ≠ b → (TX3 a).2.1 ≠ (TX3 b).2.1 := by decide +kernel
theorem tyX3_ok : ∀ k, k < 4 → parseFieldDescriptor (TX3 k).2.2.1 = some (tyX3 k) := by decide +kernel
abbrev cX3_init : ByteArray := prog_5_method_1_code
def yX3_init : MethodName := ⟨RX3, "<init>", "()V"⟩
abbrev cX3_reset : ByteArray := prog_5_method_2_code
def yX3_reset : MethodName := ⟨RX3, "reset", "()V"⟩
abbrev cX3_hasNode : ByteArray := prog_5_method_3_code
def yX3_hasNode : MethodName := ⟨RX3, "hasNode", "(I)Z"⟩
abbrev cX3_hasContact : ByteArray := prog_5_method_4_code
def yX3_hasContact : MethodName := ⟨RX3, "hasContact", "(I)Z"⟩
abbrev cX3_hasRoom : ByteArray := prog_5_method_5_code
def yX3_hasRoom : MethodName := ⟨RX3, "hasRoom", "()Z"⟩
abbrev cX3_addContact : ByteArray := prog_5_method_6_code
def yX3_addContact : MethodName := ⟨RX3, "addContact", "(LContactWays$Contact;)V"⟩
abbrev cX3_contactAt : ByteArray := prog_5_method_7_code
def yX3_contactAt : MethodName := ⟨RX3, "contactAt", "(I)LContactWays$Contact;"⟩
abbrev cX3_copyFrom : ByteArray := prog_5_method_8_code
def yX3_copyFrom : MethodName := ⟨RX3, "copyFrom", "(LContactWays$Network;)V"⟩
def RX4 : String := "ContactWays$PlanReader"
def TX4 : u_T := fun k => match k with
  | 0 => ("ContactWays$PlanReader", "text", "LContactWays$Text;", true)
  | 1 => ("ContactWays$PlanReader", "draft", "LContactWays$Network;", true)
  | 2 => ("ContactWays$PlanReader", "position", "I", false)
  | _ => ("ContactWays$PlanReader", "fault", "I", false)
def tyX4 : Nat → FieldType := fun k => match k with
  | 0 => .object "ContactWays$Text"
  | 1 => .object "ContactWays$Network"
  | 2 => .int
  | _ => .int
abbrev wsX40 : List Cond := u_ws RX4 TX4 4
theorem nmX4 : ∀ a, a < 4 → ∀ b, b < 4 → a ≠ b → (TX4 a).2.1 ≠ (TX4 b).2.1 := by decide +kernel
theorem tyX4_ok : ∀ k, k < 4 → parseFieldDescriptor (TX4 k).2.2.1 = some (tyX4 k) := by decide +kernel
abbrev cX4_init : ByteArray := prog_6_method_1_code
def yX4_init : MethodName := ⟨RX4, "<init>", "(LContactWays$Text;)V"⟩
abbrev cX4_readPlan : ByteArray := prog_6_method_2_code
def yX4_readPlan : MethodName := ⟨RX4, "readPlan", "()I"⟩
abbrev cX4_readItem : ByteArray := prog_6_method_3_code
def yX4_readItem : MethodName := ⟨RX4, "readItem", "(Z)V"⟩
abbrev cX4_readNodes : ByteArray := prog_6_method_4_code
def yX4_readNodes : MethodName := ⟨RX4, "readNodes", "()V"⟩
abbrev cX4_readContact : ByteArray := prog_6_method_5_code
def yX4_readContact : MethodName := ⟨RX4, "readContact", "()V"⟩
abbrev cX4_readNumber : ByteArray := prog_6_method_6_code
def yX4_readNumber : MethodName := ⟨RX4, "readNumber", "(III)I"⟩
abbrev cX4_readSemicolon : ByteArray := prog_6_method_7_code
def yX4_readSemicolon : MethodName := ⟨RX4, "readSemicolon", "()V"⟩
abbrev cX4_skipBlanks : ByteArray := prog_6_method_8_code
def yX4_skipBlanks : MethodName := ⟨RX4, "skipBlanks", "()V"⟩
abbrev cX4_isDigit : ByteArray := prog_6_method_9_code
def yX4_isDigit : MethodName := ⟨RX4, "isDigit", "(I)Z"⟩
abbrev cX4_blame : ByteArray := prog_6_method_10_code
def yX4_blame : MethodName := ⟨RX4, "blame", "(I)V"⟩
def RX5 : String := "ContactWays$Planner"
def TX5 : u_T := fun k => match k with
  | _ => ("ContactWays$Planner", "router", "LContactWays$Router;", true)
def tyX5 : Nat → FieldType := fun k => match k with
  | _ => .object "ContactWays$Router"
abbrev wsX50 : List Cond := u_ws RX5 TX5 1
theorem nmX5 : ∀ a, a < 1 → ∀ b, b < 1 → a ≠ b → (TX5 a).2.1 ≠ (TX5 b).2.1 := by decide +kernel
theorem tyX5_ok : ∀ k, k < 1 → parseFieldDescriptor (TX5 k).2.2.1 = some (tyX5 k) := by decide +kernel
abbrev cX5_init : ByteArray := prog_7_method_1_code
def yX5_init : MethodName := ⟨RX5, "<init>", "(LContactWays$Router;)V"⟩
abbrev cX5_planAll : ByteArray := prog_7_method_2_code
def yX5_planAll : MethodName := ⟨RX5, "planAll", "(LContactWays$Situation;I)V"⟩
abbrev cX5_firstOf : ByteArray := prog_7_method_3_code
def yX5_firstOf : MethodName := ⟨RX5, "firstOf", "(LContactWays$Situation;I)I"⟩
abbrev cX5_planOne : ByteArray := prog_7_method_4_code
def yX5_planOne : MethodName := ⟨RX5, "planOne", "(LContactWays$Situation;I)Z"⟩
abbrev cX5_pushOut : ByteArray := prog_7_method_5_code
def yX5_pushOut : MethodName := ⟨RX5, "pushOut", "(LContactWays$Situation;I)I"⟩
def RX6 : String := "ContactWays$Router"
def TX6 : u_T := fun k => match k with
  | 0 => ("ContactWays$Router", "network", "LContactWays$Network;", true)
  | 1 => ("ContactWays$Router", "freeRuns", "LContactWays$Table;", true)
  | 2 => ("ContactWays$Router", "trail", "LContactWays$Table;", true)
  | 3 => ("ContactWays$Router", "best", "LContactWays$Table;", true)
  | 4 => ("ContactWays$Router", "bestThere", "I", false)
  | 5 => ("ContactWays$Router", "goal", "I", false)
  | 6 => ("ContactWays$Router", "size", "I", false)
  | _ => ("ContactWays$Router", "without", "I", false)
def tyX6 : Nat → FieldType := fun k => match k with
  | 0 => .object "ContactWays$Network"
  | 1 => .object "ContactWays$Table"
  | 2 => .object "ContactWays$Table"
  | 3 => .object "ContactWays$Table"
  | 4 => .int
  | 5 => .int
  | 6 => .int
  | _ => .int
abbrev wsX60 : List Cond := u_ws RX6 TX6 8
theorem nmX6 : ∀ a, a < 8 → ∀ b, b < 8 → a ≠ b → (TX6 a).2.1 ≠ (TX6 b).2.1 := by decide +kernel
theorem tyX6_ok : ∀ k, k < 8 → parseFieldDescriptor (TX6 k).2.2.1 = some (tyX6 k) := by decide +kernel
abbrev cX6_init : ByteArray := prog_8_method_1_code
def yX6_init : MethodName := ⟨RX6, "<init>", "(LContactWays$Network;)V"⟩
abbrev cX6_lookAt : ByteArray := prog_8_method_2_code
def yX6_lookAt : MethodName := ⟨RX6, "lookAt", "(LContactWays$Situation;I)V"⟩
abbrev cX6_openWindows : ByteArray := prog_8_method_3_code
def yX6_openWindows : MethodName := ⟨RX6, "openWindows", "(LContactWays$Situation;)V"⟩
abbrev cX6_closeTicks : ByteArray := prog_8_method_4_code
def yX6_closeTicks : MethodName := ⟨RX6, "closeTicks", "(LContactWays$Table;I)V"⟩
abbrev cX6_countRuns : ByteArray := prog_8_method_5_code
def yX6_countRuns : MethodName := ⟨RX6, "countRuns", "()V"⟩
abbrev cX6_seek : ByteArray := prog_8_method_6_code
def yX6_seek : MethodName := ⟨RX6, "seek", "(IIIII)I"⟩
abbrev cX6_explore : ByteArray := prog_8_method_7_code
def yX6_explore : MethodName := ⟨RX6, "explore", "(LContactWays$Router;IIII)V"⟩
abbrev cX6_firstBegin : ByteArray := prog_8_method_8_code
def yX6_firstBegin : MethodName := ⟨RX6, "firstBegin", "(III)I"⟩
abbrev cX6_setTrail : ByteArray := prog_8_method_9_code
def yX6_setTrail : MethodName := ⟨RX6, "setTrail", "(IIIII)V"⟩
def RX7 : String := "ContactWays$Situation"
def TX7 : u_T := fun k => match k with
  | 0 => ("ContactWays$Situation", "nobody", "LContactWays$Bundle;", true)
  | 1 => ("ContactWays$Situation", "bundles", "[LContactWays$Bundle;", true)
  | 2 => ("ContactWays$Situation", "bundleCount", "I", false)
  | 3 => ("ContactWays$Situation", "now", "I", false)
  | _ => ("ContactWays$Situation", "missed", "I", false)
def tyX7 : Nat → FieldType := fun k => match k with
  | 0 => .object "ContactWays$Bundle"
  | 1 => .array (.object "ContactWays$Bundle")
  | 2 => .int
  | 3 => .int
  | _ => .int
abbrev wsX70 : List Cond := u_ws RX7 TX7 5
theorem nmX7 : ∀ a, a < 5 → ∀ b, b < 5 → a ≠ b → (TX7 a).2.1 ≠ (TX7 b).2.1 := by decide +kernel
theorem tyX7_ok : ∀ k, k < 5 → parseFieldDescriptor (TX7 k).2.2.1 = some (tyX7 k) := by decide +kernel
abbrev cX7_init : ByteArray := prog_9_method_1_code
def yX7_init : MethodName := ⟨RX7, "<init>", "(LContactWays$Network;)V"⟩
abbrev cX7_reset : ByteArray := prog_9_method_2_code
def yX7_reset : MethodName := ⟨RX7, "reset", "()V"⟩
abbrev cX7_copyFrom : ByteArray := prog_9_method_3_code
def yX7_copyFrom : MethodName := ⟨RX7, "copyFrom", "(LContactWays$Situation;)V"⟩
abbrev cX7_hasBundle : ByteArray := prog_9_method_4_code
def yX7_hasBundle : MethodName := ⟨RX7, "hasBundle", "(I)Z"⟩
abbrev cX7_bundleAt : ByteArray := prog_9_method_5_code
def yX7_bundleAt : MethodName := ⟨RX7, "bundleAt", "(I)LContactWays$Bundle;"⟩
abbrev cX7_addBundle : ByteArray := prog_9_method_6_code
def yX7_addBundle : MethodName := ⟨RX7, "addBundle", "()I"⟩
abbrev cX7_isMissed : ByteArray := prog_9_method_7_code
def yX7_isMissed : MethodName := ⟨RX7, "isMissed", "(I)Z"⟩
abbrev cX7_isOpen : ByteArray := prog_9_method_8_code
def yX7_isOpen : MethodName := ⟨RX7, "isOpen", "(I)Z"⟩
abbrev cX7_countStanding : ByteArray := prog_9_method_9_code
def yX7_countStanding : MethodName := ⟨RX7, "countStanding", "(I)I"⟩
abbrev cX7_allStanding : ByteArray := prog_9_method_10_code
def yX7_allStanding : MethodName := ⟨RX7, "allStanding", "(I)I"⟩
abbrev cX7_tickAtGoal : ByteArray := prog_9_method_11_code
def yX7_tickAtGoal : MethodName := ⟨RX7, "tickAtGoal", "(I)I"⟩
abbrev cX7_takerOf : ByteArray := prog_9_method_12_code
def yX7_takerOf : MethodName := ⟨RX7, "takerOf", "(II)I"⟩
abbrev cX7_advance : ByteArray := prog_9_method_13_code
def yX7_advance : MethodName := ⟨RX7, "advance", "(I)V"⟩
abbrev cX7_lose : ByteArray := prog_9_method_14_code
def yX7_lose : MethodName := ⟨RX7, "lose", "(I)I"⟩
abbrev cX7_regain : ByteArray := prog_9_method_15_code
def yX7_regain : MethodName := ⟨RX7, "regain", "(I)I"⟩
def RX8 : String := "ContactWays$Table"
def TX8 : u_T := fun k => match k with
  | 0 => ("ContactWays$Table", "columns", "I", true)
  | 1 => ("ContactWays$Table", "cells", "[I", true)
  | _ => ("ContactWays$Table", "rows", "I", false)
def tyX8 : Nat → FieldType := fun k => match k with
  | 0 => .int
  | 1 => .array .int
  | _ => .int
abbrev wsX80 : List Cond := u_ws RX8 TX8 3
theorem nmX8 : ∀ a, a < 3 → ∀ b, b < 3 → a ≠ b → (TX8 a).2.1 ≠ (TX8 b).2.1 := by decide +kernel
theorem tyX8_ok : ∀ k, k < 3 → parseFieldDescriptor (TX8 k).2.2.1 = some (tyX8 k) := by decide +kernel
abbrev cX8_init : ByteArray := prog_10_method_1_code
def yX8_init : MethodName := ⟨RX8, "<init>", "(II)V"⟩
abbrev cX8_at : ByteArray := prog_10_method_2_code
def yX8_at : MethodName := ⟨RX8, "at", "(II)I"⟩
abbrev cX8_put : ByteArray := prog_10_method_3_code
def yX8_put : MethodName := ⟨RX8, "put", "(III)V"⟩
abbrev cX8_addRow : ByteArray := prog_10_method_4_code
def yX8_addRow : MethodName := ⟨RX8, "addRow", "()I"⟩
abbrev cX8_cut : ByteArray := prog_10_method_5_code
def yX8_cut : MethodName := ⟨RX8, "cut", "(I)V"⟩
abbrev cX8_removeFirstRow : ByteArray := prog_10_method_6_code
def yX8_removeFirstRow : MethodName := ⟨RX8, "removeFirstRow", "()V"⟩
abbrev cX8_copyFrom : ByteArray := prog_10_method_7_code
def yX8_copyFrom : MethodName := ⟨RX8, "copyFrom", "(LContactWays$Table;)V"⟩
abbrev cX8_appendFrom : ByteArray := prog_10_method_8_code
def yX8_appendFrom : MethodName := ⟨RX8, "appendFrom", "(LContactWays$Table;)V"⟩
def RX9 : String := "ContactWays$Text"
def TX9 : u_T := fun k => match k with
  | 0 => ("ContactWays$Text", "bytes", "[I", true)
  | _ => ("ContactWays$Text", "length", "I", false)
def tyX9 : Nat → FieldType := fun k => match k with
  | 0 => .array .int
  | _ => .int
abbrev wsX90 : List Cond := u_ws RX9 TX9 2
theorem nmX9 : ∀ a, a < 2 → ∀ b, b < 2 → a ≠ b → (TX9 a).2.1 ≠ (TX9 b).2.1 := by decide +kernel
theorem tyX9_ok : ∀ k, k < 2 → parseFieldDescriptor (TX9 k).2.2.1 = some (tyX9 k) := by decide +kernel
abbrev cX9_init : ByteArray := prog_11_method_1_code
def yX9_init : MethodName := ⟨RX9, "<init>", "()V"⟩
abbrev cX9_isFull : ByteArray := prog_11_method_2_code
def yX9_isFull : MethodName := ⟨RX9, "isFull", "()Z"⟩
abbrev cX9_append : ByteArray := prog_11_method_3_code
def yX9_append : MethodName := ⟨RX9, "append", "(I)V"⟩
abbrev cX9_empty : ByteArray := prog_11_method_4_code
def yX9_empty : MethodName := ⟨RX9, "empty", "()V"⟩
abbrev cX9_byteAt : ByteArray := prog_11_method_5_code
def yX9_byteAt : MethodName := ⟨RX9, "byteAt", "(I)I"⟩
def RX10 : String := "ContactWays"
def TX10 : u_T := fun k => match k with
  | 0 => ("ContactWays", "text", "LContactWays$Text;", true)
  | 1 => ("ContactWays", "reader", "LContactWays$PlanReader;", true)
  | 2 => ("ContactWays", "network", "LContactWays$Network;", true)
  | 3 => ("ContactWays", "router", "LContactWays$Router;", true)
  | 4 => ("ContactWays", "planner", "LContactWays$Planner;", true)
  | 5 => ("ContactWays", "present", "LContactWays$Situation;", true)
  | 6 => ("ContactWays", "trial", "LContactWays$Situation;", true)
  | 7 => ("ContactWays", "history", "LContactWays$History;", true)
  | 8 => ("ContactWays", "firstImage", "LContactWays$Situation;", true)
  | 9 => ("ContactWays", "secondImage", "LContactWays$Situation;", true)
  | 10 => ("ContactWays", "observations", "LContactWays$Table;", true)
  | _ => ("ContactWays", "savedImages", "I", false)
def tyX10 : Nat → FieldType := fun k => match k with
  | 0 => .object "ContactWays$Text"
  | 1 => .object "ContactWays$PlanReader"
  | 2 => .object "ContactWays$Network"
  | 3 => .object "ContactWays$Router"
  | 4 => .object "ContactWays$Planner"
  | 5 => .object "ContactWays$Situation"
  | 6 => .object "ContactWays$Situation"
  | 7 => .object "ContactWays$History"
  | 8 => .object "ContactWays$Situation"
  | 9 => .object "ContactWays$Situation"
  | 10 => .object "ContactWays$Table"
  | _ => .int
abbrev wsX100 : List Cond := u_ws RX10 TX10 12
theorem nmX10 : ∀ a, a < 12 → ∀ b, b < 12 → a ≠ b → (TX10 a).2.1 ≠ (TX10 b).2.1 := by decide +kernel
theorem tyX10_ok : ∀ k, k < 12 → parseFieldDescriptor (TX10 k).2.2.1 = some (tyX10 k) := by decide +kernel
abbrev cX10_init : ByteArray := prog_1_method_1_code
def yX10_init : MethodName := ⟨RX10, "<init>", "()V"⟩
abbrev cX10_type : ByteArray := prog_1_method_2_code
def yX10_type : MethodName := ⟨RX10, "type", "(I)I"⟩
abbrev cX10_clear : ByteArray := prog_1_method_3_code
def yX10_clear : MethodName := ⟨RX10, "clear", "()I"⟩
abbrev cX10_plan : ByteArray := prog_1_method_4_code
def yX10_plan : MethodName := ⟨RX10, "plan", "()I"⟩
abbrev cX10_contact : ByteArray := prog_1_method_5_code
def yX10_contact : MethodName := ⟨RX10, "contact", "(II)I"⟩
abbrev cX10_sends : ByteArray := prog_1_method_6_code
def yX10_sends : MethodName := ⟨RX10, "sends", "(IIIII)I"⟩
abbrev cX10_drops : ByteArray := prog_1_method_7_code
def yX10_drops : MethodName := ⟨RX10, "drops", "(I)I"⟩
abbrev cX10_passes : ByteArray := prog_1_method_8_code
def yX10_passes : MethodName := ⟨RX10, "passes", "(I)I"⟩
abbrev cX10_misses : ByteArray := prog_1_method_9_code
def yX10_misses : MethodName := ⟨RX10, "misses", "(I)I"⟩
abbrev cX10_finds : ByteArray := prog_1_method_10_code
def yX10_finds : MethodName := ⟨RX10, "finds", "(I)I"⟩
abbrev cX10_undo : ByteArray := prog_1_method_11_code
def yX10_undo : MethodName := ⟨RX10, "undo", "()I"⟩
abbrev cX10_bundle : ByteArray := prog_1_method_12_code
def yX10_bundle : MethodName := ⟨RX10, "bundle", "(II)I"⟩
abbrev cX10_hop : ByteArray := prog_1_method_13_code
def yX10_hop : MethodName := ⟨RX10, "hop", "(III)I"⟩
abbrev cX10_tick : ByteArray := prog_1_method_14_code
def yX10_tick : MethodName := ⟨RX10, "tick", "(II)I"⟩
abbrev cX10_asks : ByteArray := prog_1_method_15_code
def yX10_asks : MethodName := ⟨RX10, "asks", "(IIII)I"⟩
abbrev cX10_largest : ByteArray := prog_1_method_16_code
def yX10_largest : MethodName := ⟨RX10, "largest", "(IIII)I"⟩
abbrev cX10_worst : ByteArray := prog_1_method_17_code
def yX10_worst : MethodName := ⟨RX10, "worst", "()I"⟩
abbrev cX10_sees : ByteArray := prog_1_method_18_code
def yX10_sees : MethodName := ⟨RX10, "sees", "(III)I"⟩
abbrev cX10_forget : ByteArray := prog_1_method_19_code
def yX10_forget : MethodName := ⟨RX10, "forget", "()I"⟩
abbrev cX10_unseen : ByteArray := prog_1_method_20_code
def yX10_unseen : MethodName := ⟨RX10, "unseen", "()I"⟩
abbrev cX10_keep : ByteArray := prog_1_method_21_code
def yX10_keep : MethodName := ⟨RX10, "keep", "(I)I"⟩
abbrev cX10_back : ByteArray := prog_1_method_22_code
def yX10_back : MethodName := ⟨RX10, "back", "(I)I"⟩
abbrev cX10_count : ByteArray := prog_1_method_23_code
def yX10_count : MethodName := ⟨RX10, "count", "(I)I"⟩
abbrev cX10_isWithin : ByteArray := prog_1_method_24_code
def yX10_isWithin : MethodName := ⟨RX10, "isWithin", "(III)Z"⟩
abbrev cX10_isSendable : ByteArray := prog_1_method_25_code
def yX10_isSendable : MethodName := ⟨RX10, "isSendable", "(IIII)Z"⟩
abbrev cX10_predict : ByteArray := prog_1_method_26_code
def yX10_predict : MethodName := ⟨RX10, "predict", "(IIII)I"⟩
abbrev cX10_explainsAll : ByteArray := prog_1_method_27_code
def yX10_explainsAll : MethodName := ⟨RX10, "explainsAll", "(I)Z"⟩
abbrev cX10_imageAt : ByteArray := prog_1_method_28_code
def yX10_imageAt : MethodName := ⟨RX10, "imageAt", "(I)LContactWays$Situation;"⟩
def RX11 : String := "ContactWaysModel"
def TX11 : u_T := fun k => match k with
  | 0 => ("ContactWaysModel", "thrown", "I", false)
  | 1 => ("ContactWaysModel", "nodes", "I", false)
  | 2 => ("ContactWaysModel", "contacts", "I", false)
  | 3 => ("ContactWaysModel", "of", "[I", true)
  | 4 => ("ContactWaysModel", "readNodes", "I", false)
  | 5 => ("ContactWaysModel", "readContacts", "I", false)
  | 6 => ("ContactWaysModel", "read", "[I", true)
  | 7 => ("ContactWaysModel", "s", "[I", true)
  | 8 => ("ContactWaysModel", "undos", "I", false)
  | 9 => ("ContactWaysModel", "past", "[I", true)
  | 10 => ("ContactWaysModel", "kept", "[I", true)
  | 11 => ("ContactWaysModel", "isKept", "[Z", true)
  | 12 => ("ContactWaysModel", "aside", "[I", true)
  | 13 => ("ContactWaysModel", "seen", "I", false)
  | 14 => ("ContactWaysModel", "seenNode", "[I", true)
  | 15 => ("ContactWaysModel", "seenGoal", "[I", true)
  | 16 => ("ContactWaysModel", "seenIs", "[I", true)
  | 17 => ("ContactWaysModel", "letters", "I", false)
  | 18 => ("ContactWaysModel", "text", "[I", true)
  | 19 => ("ContactWaysModel", "next", "I", false)
  | 20 => ("ContactWaysModel", "begin", "I", false)
  | 21 => ("ContactWaysModel", "token", "I", false)
  | 22 => ("ContactWaysModel", "taken", "[Z", true)
  | 23 => ("ContactWaysModel", "first", "[I", true)
  | 24 => ("ContactWaysModel", "wayMany", "I", false)
  | 25 => ("ContactWaysModel", "wayContact", "[I", true)
  | 26 => ("ContactWaysModel", "wayBegin", "[I", true)
  | _ => ("ContactWaysModel", "wayEnd", "I", false)
def tyX11 : Nat → FieldType := fun k => match k with
  | 0 => .int
  | 1 => .int
  | 2 => .int
  | 3 => .array .int
  | 4 => .int
  | 5 => .int
  | 6 => .array .int
  | 7 => .array .int
  | 8 => .int
  | 9 => .array .int
  | 10 => .array .int
  | 11 => .array .boolean
  | 12 => .array .int
  | 13 => .int
  | 14 => .array .int
  | 15 => .array .int
  | 16 => .array .int
  | 17 => .int
  | 18 => .array .int
  | 19 => .int
  | 20 => .int
  | 21 => .int
  | 22 => .array .boolean
  | 23 => .array .int
  | 24 => .int
  | 25 => .array .int
  | 26 => .array .int
  | _ => .int
abbrev wsX110 : List Cond := u_ws RX11 TX11 28
theorem nmX11 : ∀ a, a < 28 → ∀ b, b < 28 → a ≠ b → (TX11 a).2.1 ≠ (TX11 b).2.1 := by decide +kernel
theorem tyX11_ok : ∀ k, k < 28 → parseFieldDescriptor (TX11 k).2.2.1 = some (tyX11 k) := by decide +kernel
abbrev cX11_init : ByteArray := prog_13_method_1_code
def yX11_init : MethodName := ⟨RX11, "<init>", "()V"⟩
abbrev cX11_in : ByteArray := prog_13_method_3_code
def yX11_in : MethodName := ⟨RX11, "in", "(III)Z"⟩
abbrev cX11_isNode : ByteArray := prog_13_method_4_code
def yX11_isNode : MethodName := ⟨RX11, "isNode", "(I)Z"⟩
abbrev cX11_isContact : ByteArray := prog_13_method_5_code
def yX11_isContact : MethodName := ⟨RX11, "isContact", "(I)Z"⟩
abbrev cX11_isBundle : ByteArray := prog_13_method_6_code
def yX11_isBundle : MethodName := ⟨RX11, "isBundle", "(I)Z"⟩
abbrev cX11_isMissed : ByteArray := prog_13_method_7_code
def yX11_isMissed : MethodName := ⟨RX11, "isMissed", "(I)Z"⟩
abbrev cX11_type : ByteArray := prog_13_method_8_code
def yX11_type : MethodName := ⟨RX11, "type", "(I)I"⟩
abbrev cX11_clear : ByteArray := prog_13_method_9_code
def yX11_clear : MethodName := ⟨RX11, "clear", "()I"⟩
abbrev cX11_isFigure : ByteArray := prog_13_method_10_code
def yX11_isFigure : MethodName := ⟨RX11, "isFigure", "(I)Z"⟩
abbrev cX11_takes : ByteArray := prog_13_method_11_code
def yX11_takes : MethodName := ⟨RX11, "takes", "()V"⟩
abbrev cX11_reads : ByteArray := prog_13_method_12_code
def yX11_reads : MethodName := ⟨RX11, "reads", "(III)Z"⟩
abbrev cX11_readsContact : ByteArray := prog_13_method_13_code
def yX11_readsContact : MethodName := ⟨RX11, "readsContact", "()Z"⟩
abbrev cX11_readsNodes : ByteArray := prog_13_method_14_code
def yX11_readsNodes : MethodName := ⟨RX11, "readsNodes", "(I)Z"⟩
abbrev cX11_begins : ByteArray := prog_13_method_15_code
def yX11_begins : MethodName := ⟨RX11, "begins", "()V"⟩
abbrev cX11_becomes : ByteArray := prog_13_method_16_code
def yX11_becomes : MethodName := ⟨RX11, "becomes", "()V"⟩
abbrev cX11_plan : ByteArray := prog_13_method_17_code
def yX11_plan : MethodName := ⟨RX11, "plan", "()I"⟩
abbrev cX11_contact : ByteArray := prog_13_method_18_code
def yX11_contact : MethodName := ⟨RX11, "contact", "(II)I"⟩
abbrev cX11_at : ByteArray := prog_13_method_19_code
def yX11_at : MethodName := ⟨RX11, "at", "(I)I"⟩
abbrev cX11_its : ByteArray := prog_13_method_20_code
def yX11_its : MethodName := ⟨RX11, "its", "(II)I"⟩
abbrev cX11_ticks : ByteArray := prog_13_method_21_code
def yX11_ticks : MethodName := ⟨RX11, "ticks", "(II)I"⟩
abbrev cX11_arrival : ByteArray := prog_13_method_22_code
def yX11_arrival : MethodName := ⟨RX11, "arrival", "(III)I"⟩
abbrev cX11_isOn : ByteArray := prog_13_method_23_code
def yX11_isOn : MethodName := ⟨RX11, "isOn", "(I)Z"⟩
abbrev cX11_leads : ByteArray := prog_13_method_24_code
def yX11_leads : MethodName := ⟨RX11, "leads", "(I)I"⟩
abbrev cX11_stateOf : ByteArray := prog_13_method_25_code
def yX11_stateOf : MethodName := ⟨RX11, "stateOf", "(I)I"⟩
abbrev cX11_countOf : ByteArray := prog_13_method_26_code
def yX11_countOf : MethodName := ⟨RX11, "countOf", "(I)I"⟩
abbrev cX11_marks : ByteArray := prog_13_method_27_code
def yX11_marks : MethodName := ⟨RX11, "marks", "(III)V"⟩
abbrev cX11_laysTaken : ByteArray := prog_13_method_28_code
def yX11_laysTaken : MethodName := ⟨RX11, "laysTaken", "(II)V"⟩
abbrev cX11_beginsAt : ByteArray := prog_13_method_29_code
def yX11_beginsAt : MethodName := ⟨RX11, "beginsAt", "(III)I"⟩
abbrev cX11_endsAt : ByteArray := prog_13_method_30_code
def yX11_endsAt : MethodName := ⟨RX11, "endsAt", "(III)I"⟩
abbrev cX11_laysFirst : ByteArray := prog_13_method_31_code
def yX11_laysFirst : MethodName := ⟨RX11, "laysFirst", "(IIIII)V"⟩
abbrev cX11_leadsThere : ByteArray := prog_13_method_32_code
def yX11_leadsThere : MethodName := ⟨RX11, "leadsThere", "(IIIIII)Z"⟩
abbrev cX11_findsEnd : ByteArray := prog_13_method_33_code
def yX11_findsEnd : MethodName := ⟨RX11, "findsEnd", "(IIIII)Z"⟩
abbrev cX11_findsWay : ByteArray := prog_13_method_34_code
def yX11_findsWay : MethodName := ⟨RX11, "findsWay", "(IIII)V"⟩
abbrev cX11_has : ByteArray := prog_13_method_35_code
def yX11_has : MethodName := ⟨RX11, "has", "(II)Z"⟩
abbrev cX11_givesUp : ByteArray := prog_13_method_36_code
def yX11_givesUp : MethodName := ⟨RX11, "givesUp", "(I)V"⟩
abbrev cX11_meets : ByteArray := prog_13_method_37_code
def yX11_meets : MethodName := ⟨RX11, "meets", "(IIII)Z"⟩
abbrev cX11_pushesOut : ByteArray := prog_13_method_38_code
def yX11_pushesOut : MethodName := ⟨RX11, "pushesOut", "(I)I"⟩
abbrev cX11_plans : ByteArray := prog_13_method_39_code
def yX11_plans : MethodName := ⟨RX11, "plans", "(I)I"⟩
abbrev cX11_plansAll : ByteArray := prog_13_method_40_code
def yX11_plansAll : MethodName := ⟨RX11, "plansAll", "(I)V"⟩
abbrev cX11_copies : ByteArray := prog_13_method_41_code
def yX11_copies : MethodName := ⟨RX11, "copies", "([I[III)V"⟩
abbrev cX11_notes : ByteArray := prog_13_method_42_code
def yX11_notes : MethodName := ⟨RX11, "notes", "()V"⟩
abbrev cX11_sends : ByteArray := prog_13_method_43_code
def yX11_sends : MethodName := ⟨RX11, "sends", "(IIIII)I"⟩
abbrev cX11_lastEnd : ByteArray := prog_13_method_44_code
def yX11_lastEnd : MethodName := ⟨RX11, "lastEnd", "(I)I"⟩
abbrev cX11_drops : ByteArray := prog_13_method_45_code
def yX11_drops : MethodName := ⟨RX11, "drops", "(I)I"⟩
abbrev cX11_moves : ByteArray := prog_13_method_46_code
def yX11_moves : MethodName := ⟨RX11, "moves", "(I)V"⟩
abbrev cX11_passes : ByteArray := prog_13_method_47_code
def yX11_passes : MethodName := ⟨RX11, "passes", "(I)I"⟩
abbrev cX11_hasHopOn : ByteArray := prog_13_method_48_code
def yX11_hasHopOn : MethodName := ⟨RX11, "hasHopOn", "(II)Z"⟩
abbrev cX11_loses : ByteArray := prog_13_method_49_code
def yX11_loses : MethodName := ⟨RX11, "loses", "(I)V"⟩
abbrev cX11_misses : ByteArray := prog_13_method_50_code
def yX11_misses : MethodName := ⟨RX11, "misses", "(I)I"⟩
abbrev cX11_finds : ByteArray := prog_13_method_51_code
def yX11_finds : MethodName := ⟨RX11, "finds", "(I)I"⟩
abbrev cX11_undo : ByteArray := prog_13_method_52_code
def yX11_undo : MethodName := ⟨RX11, "undo", "()I"⟩
abbrev cX11_bundle : ByteArray := prog_13_method_53_code
def yX11_bundle : MethodName := ⟨RX11, "bundle", "(II)I"⟩
abbrev cX11_hop : ByteArray := prog_13_method_54_code
def yX11_hop : MethodName := ⟨RX11, "hop", "(III)I"⟩
abbrev cX11_takesTick : ByteArray := prog_13_method_55_code
def yX11_takesTick : MethodName := ⟨RX11, "takesTick", "(IIII)Z"⟩
abbrev cX11_tick : ByteArray := prog_13_method_56_code
def yX11_tick : MethodName := ⟨RX11, "tick", "(II)I"⟩
abbrev cX11_askedOf : ByteArray := prog_13_method_57_code
def yX11_askedOf : MethodName := ⟨RX11, "askedOf", "(IIIII)I"⟩
abbrev cX11_asks : ByteArray := prog_13_method_58_code
def yX11_asks : MethodName := ⟨RX11, "asks", "(IIII)I"⟩
abbrev cX11_largest : ByteArray := prog_13_method_59_code
def yX11_largest : MethodName := ⟨RX11, "largest", "(IIII)I"⟩
abbrev cX11_worst : ByteArray := prog_13_method_60_code
def yX11_worst : MethodName := ⟨RX11, "worst", "()I"⟩
abbrev cX11_sees : ByteArray := prog_13_method_61_code
def yX11_sees : MethodName := ⟨RX11, "sees", "(III)I"⟩
abbrev cX11_forget : ByteArray := prog_13_method_62_code
def yX11_forget : MethodName := ⟨RX11, "forget", "()I"⟩
abbrev cX11_unseen : ByteArray := prog_13_method_63_code
def yX11_unseen : MethodName := ⟨RX11, "unseen", "()I"⟩
abbrev cX11_keep : ByteArray := prog_13_method_64_code
def yX11_keep : MethodName := ⟨RX11, "keep", "(I)I"⟩
abbrev cX11_back : ByteArray := prog_13_method_65_code
def yX11_back : MethodName := ⟨RX11, "back", "(I)I"⟩
abbrev cX11_count : ByteArray := prog_13_method_66_code
def yX11_count : MethodName := ⟨RX11, "count", "(I)I"⟩
def RJ6 : String := "java/lang/Integer"
def TJ6 : u_T := fun k => match k with
  | _ => ("", "", "", false)
def tyJ6 : Nat → FieldType := fun k => match k with
  | _ => .int
abbrev wsJ60 : List Cond := u_ws RJ6 TJ6 0
theorem nmJ6 : ∀ a, a < 0 → ∀ b, b < 0 → a ≠ b → (TJ6 a).2.1 ≠ (TJ6 b).2.1 := by decide +kernel
theorem tyJ6_ok : ∀ k, k < 0 → parseFieldDescriptor (TJ6 k).2.2.1 = some (tyJ6 k) := by decide +kernel
abbrev cJ6_bitCount_0f7a4 : ByteArray := prog_14_method_49_code
def yJ6_bitCount_0f7a4 : MethodName := ⟨RJ6, "bitCount", "(I)I"⟩
def RJ9 : String := "java/lang/Math"
def TJ9 : u_T := fun k => match k with
  | _ => ("", "", "", false)
def tyJ9 : Nat → FieldType := fun k => match k with
  | _ => .int
abbrev wsJ90 : List Cond := u_ws RJ9 TJ9 0
theorem nmJ9 : ∀ a, a < 0 → ∀ b, b < 0 → a ≠ b → (TJ9 a).2.1 ≠ (TJ9 b).2.1 := by decide +kernel
theorem tyJ9_ok : ∀ k, k < 0 → parseFieldDescriptor (TJ9 k).2.2.1 = some (tyJ9 k) := by decide +kernel
abbrev cJ9_max_7cf53 : ByteArray := prog_15_method_65_code
def yJ9_max_7cf53 : MethodName := ⟨RJ9, "max", "(II)I"⟩
abbrev cJ9_min_7cf53 : ByteArray := prog_15_method_69_code
def yJ9_min_7cf53 : MethodName := ⟨RJ9, "min", "(II)I"⟩
def RL : String := "ContactWaysLaw"
abbrev cL_law : ByteArray := code
def yL_law : MethodName := ⟨RL, "law", "([I)Z"⟩
abbrev vwCl : List vw_C := [(RX0, TX0, 9), (RX1, TX1, 6), (RX2, TX2, 4), (RX3, TX3, 4), (RX4, TX4, 4), (RX5, TX5, 1), (RX6, TX6, 8), (RX7, TX7, 5), (RX8, TX8, 3), (RX9, TX9, 2), (RX10, TX10, 12), (RX11, TX11, 28)]
def SHL : List (Nat × Nat) := [(10, 12), (9, 2), (20, 150), (4, 4), (3, 4), (1, 6), (23, 8), (3, 4), (1, 6), (23, 8), (6, 8), (8, 3), (20, 800), (8, 3), (20, 24), (8, 3), (20, 24), (5, 1), (7, 5), (0, 9), (8, 3), (20, 24), (22, 8), (0, 9), (8, 3), (20, 24), (0, 9), (8, 3), (20, 24), (0, 9), (8, 3), (20, 24), (0, 9), (8, 3), (20, 24), (0, 9), (8, 3), (20, 24), (0, 9), (8, 3), (20, 24), (0, 9), (8, 3), (20, 24), (0, 9), (8, 3), (20, 24), (7, 5), (0, 9), (8, 3), (20, 24), (22, 8), (0, 9), (8, 3), (20, 24), (0, 9), (8, 3), (20, 24), (0, 9), (8, 3), (20, 24), (0, 9), (8, 3), (20, 24), (0, 9), (8, 3), (20, 24), (0, 9), (8, 3), (20, 24), (0, 9), (8, 3), (20, 24), (0, 9), (8, 3), (20, 24), (2, 4), (7, 5), (0, 9), (8, 3), (20, 24), (22, 8), (0, 9), (8, 3), (20, 24), (0, 9), (8, 3), (20, 24), (0, 9), (8, 3), (20, 24), (0, 9), (8, 3), (20, 24), (0, 9), (8, 3), (20, 24), (0, 9), (8, 3), (20, 24), (0, 9), (8, 3), (20, 24), (0, 9), (8, 3), (20, 24), (24, 8), (7, 5), (0, 9), (8, 3), (20, 24), (22, 8), (0, 9), (8, 3), (20, 24), (0, 9), (8, 3), (20, 24), (0, 9), (8, 3), (20, 24), (0, 9), (8, 3), (20, 24), (0, 9), (8, 3), (20, 24), (0, 9), (8, 3), (20, 24), (0, 9), (8, 3), (20, 24), (0, 9), (8, 3), (20, 24), (7, 5), (0, 9), (8, 3), (20, 24), (22, 8), (0, 9), (8, 3), (20, 24), (0, 9), (8, 3), (20, 24), (0, 9), (8, 3), (20, 24), (0, 9), (8, 3), (20, 24), (0, 9), (8, 3), (20, 24), (0, 9), (8, 3), (20, 24), (0, 9), (8, 3), (20, 24), (0, 9), (8, 3), (20, 24), (7, 5), (0, 9), (8, 3), (20, 24), (22, 8), (0, 9), (8, 3), (20, 24), (0, 9), (8, 3), (20, 24), (0, 9), (8, 3), (20, 24), (0, 9), (8, 3), (20, 24), (0, 9), (8, 3), (20, 24), (0, 9), (8, 3), (20, 24), (0, 9), (8, 3), (20, 24), (0, 9), (8, 3), (20, 24), (7, 5), (0, 9), (8, 3), (20, 24), (22, 8), (0, 9), (8, 3), (20, 24), (0, 9), (8, 3), (20, 24), (0, 9), (8, 3), (20, 24), (0, 9), (8, 3), (20, 24), (0, 9), (8, 3), (20, 24), (0, 9), (8, 3), (20, 24), (0, 9), (8, 3), (20, 24), (0, 9), (8, 3), (20, 24), (7, 5), (0, 9), (8, 3), (20, 24), (22, 8), (0, 9), (8, 3), (20, 24), (0, 9), (8, 3), (20, 24), (0, 9), (8, 3), (20, 24), (0, 9), (8, 3), (20, 24), (0, 9), (8, 3), (20, 24), (0, 9), (8, 3), (20, 24), (0, 9), (8, 3), (20, 24), (0, 9), (8, 3), (20, 24), (7, 5), (0, 9), (8, 3), (20, 24), (22, 8), (0, 9), (8, 3), (20, 24), (0, 9), (8, 3), (20, 24), (0, 9), (8, 3), (20, 24), (0, 9), (8, 3), (20, 24), (0, 9), (8, 3), (20, 24), (0, 9), (8, 3), (20, 24), (0, 9), (8, 3), (20, 24), (0, 9), (8, 3), (20, 24), (7, 5), (0, 9), (8, 3), (20, 24), (22, 8), (0, 9), (8, 3), (20, 24), (0, 9), (8, 3), (20, 24), (0, 9), (8, 3), (20, 24), (0, 9), (8, 3), (20, 24), (0, 9), (8, 3), (20, 24), (0, 9), (8, 3), (20, 24), (0, 9), (8, 3), (20, 24), (0, 9), (8, 3), (20, 24), (7, 5), (0, 9), (8, 3), (20, 24), (22, 8), (0, 9), (8, 3), (20, 24), (0, 9), (8, 3), (20, 24), (0, 9), (8, 3), (20, 24), (0, 9), (8, 3), (20, 24), (0, 9), (8, 3), (20, 24), (0, 9), (8, 3), (20, 24), (0, 9), (8, 3), (20, 24), (0, 9), (8, 3), (20, 24), (7, 5), (0, 9), (8, 3), (20, 24), (22, 8), (0, 9), (8, 3), (20, 24), (0, 9), (8, 3), (20, 24), (0, 9), (8, 3), (20, 24), (0, 9), (8, 3), (20, 24), (0, 9), (8, 3), (20, 24), (0, 9), (8, 3), (20, 24), (0, 9), (8, 3), (20, 24), (0, 9), (8, 3), (20, 24), (7, 5), (0, 9), (8, 3), (20, 24), (22, 8), (0, 9), (8, 3), (20, 24), (0, 9), (8, 3), (20, 24), (0, 9), (8, 3), (20, 24), (0, 9), (8, 3), (20, 24), (0, 9), (8, 3), (20, 24), (0, 9), (8, 3), (20, 24), (0, 9), (8, 3), (20, 24), (0, 9), (8, 3), (20, 24), (8, 3), (20, 18), (11, 28), (20, 48), (20, 48), (20, 163), (20, 1304), (20, 326), (21, 2), (20, 163), (20, 6), (20, 6), (20, 6), (20, 150), (21, 800), (20, 36), (20, 5), (20, 5)]
/-- kind and size of the cell at a place of the heap, counted from the start of the law; behind the 415 made by the constructors there are contacts alone -/
def SH (a : Int) : Nat × Nat := if a < 0 then (99, 0) else SHL.getD a.toNat (1, 6)
def tyC (c k : Nat) : FieldType := match c with
  | 0 => tyX0 k
  | 1 => tyX1 k
  | 2 => tyX2 k
  | 3 => tyX3 k
  | 4 => tyX4 k
  | 5 => tyX5 k
  | 6 => tyX6 k
  | 7 => tyX7 k
  | 8 => tyX8 k
  | 9 => tyX9 k
  | 10 => tyX10 k
  | _ => tyX11 k
