section
-- PART A of the skeleton, the printed names (starting texts); the shape of the heap
/-- a private method of a class that the tables say can be made, by its rows of tables_1 -/
def lw_okq (q : MethodName × Nat) : Prop := (q.1.cls ≠ "java/lang/invoke/MethodHandle" ∧ q.1.cls ≠ "java/lang/invoke/VarHandle") ∧ Cond.instantiable q.1.cls q.2 ∈ tables_1 ∧ Cond.privateMethod q.1 ∈ tables_1 ∧ Cond.instanceMethod q.1 ∈ tables_1
theorem lw_p0 : lw_okq (⟨"ContactWays$PlanReader", "skipBlanks", "()V"⟩, 4) := ⟨⟨by decide +kernel, by decide +kernel⟩, List.mem_of_getElem? (i := 40) (by decide +kernel), List.mem_of_getElem? (i := 353) (by decide +kernel), List.mem_of_getElem? (i := 354) (by decide +kernel)⟩
theorem lw_p1 : lw_okq (⟨"ContactWays$PlanReader", "readItem", "(Z)V"⟩, 4) := ⟨⟨by decide +kernel, by decide +kernel⟩, List.mem_of_getElem? (i := 40) (by decide +kernel), List.mem_of_getElem? (i := 361) (by decide +kernel), List.mem_of_getElem? (i := 362) (by decide +kernel)⟩
theorem lw_p2 : lw_okq (⟨"ContactWays$PlanReader", "readNodes", "()V"⟩, 4) := ⟨⟨by decide +kernel, by decide +kernel⟩, List.mem_of_getElem? (i := 40) (by decide +kernel), List.mem_of_getElem? (i := 365) (by decide +kernel), List.mem_of_getElem? (i := 366) (by decide +kernel)⟩
theorem lw_p3 : lw_okq (⟨"ContactWays$PlanReader", "readNumber", "(III)I"⟩, 4) := ⟨⟨by decide +kernel, by decide +kernel⟩, List.mem_of_getElem? (i := 40) (by decide +kernel), List.mem_of_getElem? (i := 369) (by decide +kernel), List.mem_of_getElem? (i := 370) (by decide +kernel)⟩
theorem lw_p4 : lw_okq (⟨"ContactWays$PlanReader", "blame", "(I)V"⟩, 4) := ⟨⟨by decide +kernel, by decide +kernel⟩, List.mem_of_getElem? (i := 40) (by decide +kernel), List.mem_of_getElem? (i := 380) (by decide +kernel), List.mem_of_getElem? (i := 381) (by decide +kernel)⟩
theorem lw_p5 : lw_okq (⟨"ContactWays$PlanReader", "readSemicolon", "()V"⟩, 4) := ⟨⟨by decide +kernel, by decide +kernel⟩, List.mem_of_getElem? (i := 40) (by decide +kernel), List.mem_of_getElem? (i := 384) (by decide +kernel), List.mem_of_getElem? (i := 385) (by decide +kernel)⟩
theorem lw_p6 : lw_okq (⟨"ContactWays$PlanReader", "readContact", "()V"⟩, 4) := ⟨⟨by decide +kernel, by decide +kernel⟩, List.mem_of_getElem? (i := 40) (by decide +kernel), List.mem_of_getElem? (i := 392) (by decide +kernel), List.mem_of_getElem? (i := 393) (by decide +kernel)⟩
theorem lw_p7 : lw_okq (⟨"ContactWays", "isSendable", "(IIII)Z"⟩, 12) := ⟨⟨by decide +kernel, by decide +kernel⟩, List.mem_of_getElem? (i := 16) (by decide +kernel), List.mem_of_getElem? (i := 445) (by decide +kernel), List.mem_of_getElem? (i := 446) (by decide +kernel)⟩
theorem lw_p8 : lw_okq (⟨"ContactWays$History", "slotAt", "(I)LContactWays$Situation;"⟩, 4) := ⟨⟨by decide +kernel, by decide +kernel⟩, List.mem_of_getElem? (i := 256) (by decide +kernel), List.mem_of_getElem? (i := 457) (by decide +kernel), List.mem_of_getElem? (i := 458) (by decide +kernel)⟩
theorem lw_p9 : lw_okq (⟨"ContactWays$Planner", "firstOf", "(LContactWays$Situation;I)I"⟩, 1) := ⟨⟨by decide +kernel, by decide +kernel⟩, List.mem_of_getElem? (i := 172) (by decide +kernel), List.mem_of_getElem? (i := 523) (by decide +kernel), List.mem_of_getElem? (i := 524) (by decide +kernel)⟩
theorem lw_p10 : lw_okq (⟨"ContactWays$Planner", "planOne", "(LContactWays$Situation;I)Z"⟩, 1) := ⟨⟨by decide +kernel, by decide +kernel⟩, List.mem_of_getElem? (i := 172) (by decide +kernel), List.mem_of_getElem? (i := 528) (by decide +kernel), List.mem_of_getElem? (i := 529) (by decide +kernel)⟩
theorem lw_p11 : lw_okq (⟨"ContactWays$Bundle", "hopsOnTheirWay", "(I)I"⟩, 9) := ⟨⟨by decide +kernel, by decide +kernel⟩, List.mem_of_getElem? (i := 188) (by decide +kernel), List.mem_of_getElem? (i := 536) (by decide +kernel), List.mem_of_getElem? (i := 537) (by decide +kernel)⟩
theorem lw_p12 : lw_okq (⟨"ContactWays$Router", "openWindows", "(LContactWays$Situation;)V"⟩, 8) := ⟨⟨by decide +kernel, by decide +kernel⟩, List.mem_of_getElem? (i := 117) (by decide +kernel), List.mem_of_getElem? (i := 549) (by decide +kernel), List.mem_of_getElem? (i := 550) (by decide +kernel)⟩
theorem lw_p13 : lw_okq (⟨"ContactWays$Router", "closeTicks", "(LContactWays$Table;I)V"⟩, 8) := ⟨⟨by decide +kernel, by decide +kernel⟩, List.mem_of_getElem? (i := 117) (by decide +kernel), List.mem_of_getElem? (i := 561) (by decide +kernel), List.mem_of_getElem? (i := 562) (by decide +kernel)⟩
theorem lw_p14 : lw_okq (⟨"ContactWays$Router", "countRuns", "()V"⟩, 8) := ⟨⟨by decide +kernel, by decide +kernel⟩, List.mem_of_getElem? (i := 117) (by decide +kernel), List.mem_of_getElem? (i := 565) (by decide +kernel), List.mem_of_getElem? (i := 566) (by decide +kernel)⟩
theorem lw_p15 : lw_okq (⟨"ContactWays$Router", "firstBegin", "(III)I"⟩, 8) := ⟨⟨by decide +kernel, by decide +kernel⟩, List.mem_of_getElem? (i := 117) (by decide +kernel), List.mem_of_getElem? (i := 580) (by decide +kernel), List.mem_of_getElem? (i := 581) (by decide +kernel)⟩
def lw_privs_1 : List (MethodName × Nat) := [(⟨"ContactWays$PlanReader", "skipBlanks", "()V"⟩, 4), (⟨"ContactWays$PlanReader", "readItem", "(Z)V"⟩, 4), (⟨"ContactWays$PlanReader", "readNodes", "()V"⟩, 4), (⟨"ContactWays$PlanReader", "readNumber", "(III)I"⟩, 4), (⟨"ContactWays$PlanReader", "blame", "(I)V"⟩, 4), (⟨"ContactWays$PlanReader", "readSemicolon", "()V"⟩, 4), (⟨"ContactWays$PlanReader", "readContact", "()V"⟩, 4), (⟨"ContactWays", "isSendable", "(IIII)Z"⟩, 12), (⟨"ContactWays$History", "slotAt", "(I)LContactWays$Situation;"⟩, 4), (⟨"ContactWays$Planner", "firstOf", "(LContactWays$Situation;I)I"⟩, 1), (⟨"ContactWays$Planner", "planOne", "(LContactWays$Situation;I)Z"⟩, 1), (⟨"ContactWays$Bundle", "hopsOnTheirWay", "(I)I"⟩, 9), (⟨"ContactWays$Router", "openWindows", "(LContactWays$Situation;)V"⟩, 8), (⟨"ContactWays$Router", "closeTicks", "(LContactWays$Table;I)V"⟩, 8), (⟨"ContactWays$Router", "countRuns", "()V"⟩, 8), (⟨"ContactWays$Router", "firstBegin", "(III)I"⟩, 8)]
theorem lw_r1 : ∀ q ∈ lw_privs_1, lw_okq q := List.forall_mem_cons.mpr ⟨lw_p0, List.forall_mem_cons.mpr ⟨lw_p1, List.forall_mem_cons.mpr ⟨lw_p2, List.forall_mem_cons.mpr ⟨lw_p3, List.forall_mem_cons.mpr ⟨lw_p4, List.forall_mem_cons.mpr ⟨lw_p5, List.forall_mem_cons.mpr ⟨lw_p6, List.forall_mem_cons.mpr ⟨lw_p7, List.forall_mem_cons.mpr ⟨lw_p8, List.forall_mem_cons.mpr ⟨lw_p9, List.forall_mem_cons.mpr ⟨lw_p10, List.forall_mem_cons.mpr ⟨lw_p11, List.forall_mem_cons.mpr ⟨lw_p12, List.forall_mem_cons.mpr ⟨lw_p13, List.forall_mem_cons.mpr ⟨lw_p14, List.forall_mem_cons.mpr ⟨lw_p15, fun _ h => absurd h List.not_mem_nil⟩⟩⟩⟩⟩⟩⟩⟩⟩⟩⟩⟩⟩⟩⟩⟩
theorem lw_p16 : lw_okq (⟨"ContactWays$Router", "setTrail", "(IIIII)V"⟩, 8) := ⟨⟨by decide +kernel, by decide +kernel⟩, List.mem_of_getElem? (i := 117) (by decide +kernel), List.mem_of_getElem? (i := 584) (by decide +kernel), List.mem_of_getElem? (i := 585) (by decide +kernel)⟩
theorem lw_p17 : lw_okq (⟨"ContactWays$Planner", "pushOut", "(LContactWays$Situation;I)I"⟩, 1) := ⟨⟨by decide +kernel, by decide +kernel⟩, List.mem_of_getElem? (i := 172) (by decide +kernel), List.mem_of_getElem? (i := 590) (by decide +kernel), List.mem_of_getElem? (i := 591) (by decide +kernel)⟩
theorem lw_p18 : lw_okq (⟨"ContactWays", "predict", "(IIII)I"⟩, 12) := ⟨⟨by decide +kernel, by decide +kernel⟩, List.mem_of_getElem? (i := 16) (by decide +kernel), List.mem_of_getElem? (i := 708) (by decide +kernel), List.mem_of_getElem? (i := 709) (by decide +kernel)⟩
theorem lw_p19 : lw_okq (⟨"ContactWays", "explainsAll", "(I)Z"⟩, 12) := ⟨⟨by decide +kernel, by decide +kernel⟩, List.mem_of_getElem? (i := 16) (by decide +kernel), List.mem_of_getElem? (i := 736) (by decide +kernel), List.mem_of_getElem? (i := 737) (by decide +kernel)⟩
theorem lw_p20 : lw_okq (⟨"ContactWays", "imageAt", "(I)LContactWays$Situation;"⟩, 12) := ⟨⟨by decide +kernel, by decide +kernel⟩, List.mem_of_getElem? (i := 16) (by decide +kernel), List.mem_of_getElem? (i := 744) (by decide +kernel), List.mem_of_getElem? (i := 745) (by decide +kernel)⟩
theorem lw_p21 : lw_okq (⟨"ContactWaysModel", "begins", "()V"⟩, 28) := ⟨⟨by decide +kernel, by decide +kernel⟩, List.mem_of_getElem? (i := 756) (by decide +kernel), List.mem_of_getElem? (i := 762) (by decide +kernel), List.mem_of_getElem? (i := 763) (by decide +kernel)⟩
theorem lw_p22 : lw_okq (⟨"ContactWaysModel", "becomes", "()V"⟩, 28) := ⟨⟨by decide +kernel, by decide +kernel⟩, List.mem_of_getElem? (i := 756) (by decide +kernel), List.mem_of_getElem? (i := 766) (by decide +kernel), List.mem_of_getElem? (i := 767) (by decide +kernel)⟩
theorem lw_p23 : lw_okq (⟨"ContactWaysModel", "takes", "()V"⟩, 28) := ⟨⟨by decide +kernel, by decide +kernel⟩, List.mem_of_getElem? (i := 756) (by decide +kernel), List.mem_of_getElem? (i := 871) (by decide +kernel), List.mem_of_getElem? (i := 872) (by decide +kernel)⟩
theorem lw_p24 : lw_okq (⟨"ContactWaysModel", "isFigure", "(I)Z"⟩, 28) := ⟨⟨by decide +kernel, by decide +kernel⟩, List.mem_of_getElem? (i := 756) (by decide +kernel), List.mem_of_getElem? (i := 875) (by decide +kernel), List.mem_of_getElem? (i := 876) (by decide +kernel)⟩
theorem lw_p25 : lw_okq (⟨"ContactWaysModel", "readsNodes", "(I)Z"⟩, 28) := ⟨⟨by decide +kernel, by decide +kernel⟩, List.mem_of_getElem? (i := 756) (by decide +kernel), List.mem_of_getElem? (i := 879) (by decide +kernel), List.mem_of_getElem? (i := 880) (by decide +kernel)⟩
theorem lw_p26 : lw_okq (⟨"ContactWaysModel", "readsContact", "()Z"⟩, 28) := ⟨⟨by decide +kernel, by decide +kernel⟩, List.mem_of_getElem? (i := 756) (by decide +kernel), List.mem_of_getElem? (i := 883) (by decide +kernel), List.mem_of_getElem? (i := 884) (by decide +kernel)⟩
theorem lw_p27 : lw_okq (⟨"ContactWaysModel", "reads", "(III)Z"⟩, 28) := ⟨⟨by decide +kernel, by decide +kernel⟩, List.mem_of_getElem? (i := 756) (by decide +kernel), List.mem_of_getElem? (i := 887) (by decide +kernel), List.mem_of_getElem? (i := 888) (by decide +kernel)⟩
theorem lw_p28 : lw_okq (⟨"ContactWaysModel", "isContact", "(I)Z"⟩, 28) := ⟨⟨by decide +kernel, by decide +kernel⟩, List.mem_of_getElem? (i := 756) (by decide +kernel), List.mem_of_getElem? (i := 895) (by decide +kernel), List.mem_of_getElem? (i := 896) (by decide +kernel)⟩
theorem lw_p29 : lw_okq (⟨"ContactWaysModel", "isMissed", "(I)Z"⟩, 28) := ⟨⟨by decide +kernel, by decide +kernel⟩, List.mem_of_getElem? (i := 756) (by decide +kernel), List.mem_of_getElem? (i := 899) (by decide +kernel), List.mem_of_getElem? (i := 900) (by decide +kernel)⟩
theorem lw_p30 : lw_okq (⟨"ContactWaysModel", "isNode", "(I)Z"⟩, 28) := ⟨⟨by decide +kernel, by decide +kernel⟩, List.mem_of_getElem? (i := 756) (by decide +kernel), List.mem_of_getElem? (i := 907) (by decide +kernel), List.mem_of_getElem? (i := 908) (by decide +kernel)⟩
theorem lw_p31 : lw_okq (⟨"ContactWaysModel", "notes", "()V"⟩, 28) := ⟨⟨by decide +kernel, by decide +kernel⟩, List.mem_of_getElem? (i := 756) (by decide +kernel), List.mem_of_getElem? (i := 911) (by decide +kernel), List.mem_of_getElem? (i := 912) (by decide +kernel)⟩
def lw_privs_2 : List (MethodName × Nat) := [(⟨"ContactWays$Router", "setTrail", "(IIIII)V"⟩, 8), (⟨"ContactWays$Planner", "pushOut", "(LContactWays$Situation;I)I"⟩, 1), (⟨"ContactWays", "predict", "(IIII)I"⟩, 12), (⟨"ContactWays", "explainsAll", "(I)Z"⟩, 12), (⟨"ContactWays", "imageAt", "(I)LContactWays$Situation;"⟩, 12), (⟨"ContactWaysModel", "begins", "()V"⟩, 28), (⟨"ContactWaysModel", "becomes", "()V"⟩, 28), (⟨"ContactWaysModel", "takes", "()V"⟩, 28), (⟨"ContactWaysModel", "isFigure", "(I)Z"⟩, 28), (⟨"ContactWaysModel", "readsNodes", "(I)Z"⟩, 28), (⟨"ContactWaysModel", "readsContact", "()Z"⟩, 28), (⟨"ContactWaysModel", "reads", "(III)Z"⟩, 28), (⟨"ContactWaysModel", "isContact", "(I)Z"⟩, 28), (⟨"ContactWaysModel", "isMissed", "(I)Z"⟩, 28), (⟨"ContactWaysModel", "isNode", "(I)Z"⟩, 28), (⟨"ContactWaysModel", "notes", "()V"⟩, 28)]
theorem lw_r2 : ∀ q ∈ lw_privs_2, lw_okq q := List.forall_mem_cons.mpr ⟨lw_p16, List.forall_mem_cons.mpr ⟨lw_p17, List.forall_mem_cons.mpr ⟨lw_p18, List.forall_mem_cons.mpr ⟨lw_p19, List.forall_mem_cons.mpr ⟨lw_p20, List.forall_mem_cons.mpr ⟨lw_p21, List.forall_mem_cons.mpr ⟨lw_p22, List.forall_mem_cons.mpr ⟨lw_p23, List.forall_mem_cons.mpr ⟨lw_p24, List.forall_mem_cons.mpr ⟨lw_p25, List.forall_mem_cons.mpr ⟨lw_p26, List.forall_mem_cons.mpr ⟨lw_p27, List.forall_mem_cons.mpr ⟨lw_p28, List.forall_mem_cons.mpr ⟨lw_p29, List.forall_mem_cons.mpr ⟨lw_p30, List.forall_mem_cons.mpr ⟨lw_p31, fun _ h => absurd h List.not_mem_nil⟩⟩⟩⟩⟩⟩⟩⟩⟩⟩⟩⟩⟩⟩⟩⟩
theorem lw_p32 : lw_okq (⟨"ContactWaysModel", "copies", "([I[III)V"⟩, 28) := ⟨⟨by decide +kernel, by decide +kernel⟩, List.mem_of_getElem? (i := 756) (by decide +kernel), List.mem_of_getElem? (i := 915) (by decide +kernel), List.mem_of_getElem? (i := 916) (by decide +kernel)⟩
theorem lw_p33 : lw_okq (⟨"ContactWaysModel", "plansAll", "(I)V"⟩, 28) := ⟨⟨by decide +kernel, by decide +kernel⟩, List.mem_of_getElem? (i := 756) (by decide +kernel), List.mem_of_getElem? (i := 922) (by decide +kernel), List.mem_of_getElem? (i := 923) (by decide +kernel)⟩
theorem lw_p34 : lw_okq (⟨"ContactWaysModel", "its", "(II)I"⟩, 28) := ⟨⟨by decide +kernel, by decide +kernel⟩, List.mem_of_getElem? (i := 756) (by decide +kernel), List.mem_of_getElem? (i := 929) (by decide +kernel), List.mem_of_getElem? (i := 930) (by decide +kernel)⟩
theorem lw_p35 : lw_okq (⟨"ContactWaysModel", "plans", "(I)I"⟩, 28) := ⟨⟨by decide +kernel, by decide +kernel⟩, List.mem_of_getElem? (i := 756) (by decide +kernel), List.mem_of_getElem? (i := 933) (by decide +kernel), List.mem_of_getElem? (i := 934) (by decide +kernel)⟩
theorem lw_p36 : lw_okq (⟨"ContactWaysModel", "givesUp", "(I)V"⟩, 28) := ⟨⟨by decide +kernel, by decide +kernel⟩, List.mem_of_getElem? (i := 756) (by decide +kernel), List.mem_of_getElem? (i := 937) (by decide +kernel), List.mem_of_getElem? (i := 938) (by decide +kernel)⟩
theorem lw_p37 : lw_okq (⟨"ContactWaysModel", "stateOf", "(I)I"⟩, 28) := ⟨⟨by decide +kernel, by decide +kernel⟩, List.mem_of_getElem? (i := 756) (by decide +kernel), List.mem_of_getElem? (i := 941) (by decide +kernel), List.mem_of_getElem? (i := 942) (by decide +kernel)⟩
theorem lw_p38 : lw_okq (⟨"ContactWaysModel", "isOn", "(I)Z"⟩, 28) := ⟨⟨by decide +kernel, by decide +kernel⟩, List.mem_of_getElem? (i := 756) (by decide +kernel), List.mem_of_getElem? (i := 945) (by decide +kernel), List.mem_of_getElem? (i := 946) (by decide +kernel)⟩
theorem lw_p39 : lw_okq (⟨"ContactWaysModel", "leads", "(I)I"⟩, 28) := ⟨⟨by decide +kernel, by decide +kernel⟩, List.mem_of_getElem? (i := 756) (by decide +kernel), List.mem_of_getElem? (i := 949) (by decide +kernel), List.mem_of_getElem? (i := 950) (by decide +kernel)⟩
theorem lw_p40 : lw_okq (⟨"ContactWaysModel", "arrival", "(III)I"⟩, 28) := ⟨⟨by decide +kernel, by decide +kernel⟩, List.mem_of_getElem? (i := 756) (by decide +kernel), List.mem_of_getElem? (i := 953) (by decide +kernel), List.mem_of_getElem? (i := 954) (by decide +kernel)⟩
theorem lw_p41 : lw_okq (⟨"ContactWaysModel", "ticks", "(II)I"⟩, 28) := ⟨⟨by decide +kernel, by decide +kernel⟩, List.mem_of_getElem? (i := 756) (by decide +kernel), List.mem_of_getElem? (i := 957) (by decide +kernel), List.mem_of_getElem? (i := 958) (by decide +kernel)⟩
theorem lw_p42 : lw_okq (⟨"ContactWaysModel", "laysTaken", "(II)V"⟩, 28) := ⟨⟨by decide +kernel, by decide +kernel⟩, List.mem_of_getElem? (i := 756) (by decide +kernel), List.mem_of_getElem? (i := 961) (by decide +kernel), List.mem_of_getElem? (i := 962) (by decide +kernel)⟩
theorem lw_p43 : lw_okq (⟨"ContactWaysModel", "marks", "(III)V"⟩, 28) := ⟨⟨by decide +kernel, by decide +kernel⟩, List.mem_of_getElem? (i := 756) (by decide +kernel), List.mem_of_getElem? (i := 965) (by decide +kernel), List.mem_of_getElem? (i := 966) (by decide +kernel)⟩
theorem lw_p44 : lw_okq (⟨"ContactWaysModel", "findsEnd", "(IIIII)Z"⟩, 28) := ⟨⟨by decide +kernel, by decide +kernel⟩, List.mem_of_getElem? (i := 756) (by decide +kernel), List.mem_of_getElem? (i := 969) (by decide +kernel), List.mem_of_getElem? (i := 970) (by decide +kernel)⟩
theorem lw_p45 : lw_okq (⟨"ContactWaysModel", "laysFirst", "(IIIII)V"⟩, 28) := ⟨⟨by decide +kernel, by decide +kernel⟩, List.mem_of_getElem? (i := 756) (by decide +kernel), List.mem_of_getElem? (i := 973) (by decide +kernel), List.mem_of_getElem? (i := 974) (by decide +kernel)⟩
theorem lw_p46 : lw_okq (⟨"ContactWaysModel", "endsAt", "(III)I"⟩, 28) := ⟨⟨by decide +kernel, by decide +kernel⟩, List.mem_of_getElem? (i := 756) (by decide +kernel), List.mem_of_getElem? (i := 977) (by decide +kernel), List.mem_of_getElem? (i := 978) (by decide +kernel)⟩
theorem lw_p47 : lw_okq (⟨"ContactWaysModel", "beginsAt", "(III)I"⟩, 28) := ⟨⟨by decide +kernel, by decide +kernel⟩, List.mem_of_getElem? (i := 756) (by decide +kernel), List.mem_of_getElem? (i := 981) (by decide +kernel), List.mem_of_getElem? (i := 982) (by decide +kernel)⟩
def lw_privs_3 : List (MethodName × Nat) := [(⟨"ContactWaysModel", "copies", "([I[III)V"⟩, 28), (⟨"ContactWaysModel", "plansAll", "(I)V"⟩, 28), (⟨"ContactWaysModel", "its", "(II)I"⟩, 28), (⟨"ContactWaysModel", "plans", "(I)I"⟩, 28), (⟨"ContactWaysModel", "givesUp", "(I)V"⟩, 28), (⟨"ContactWaysModel", "stateOf", "(I)I"⟩, 28), (⟨"ContactWaysModel", "isOn", "(I)Z"⟩, 28), (⟨"ContactWaysModel", "leads", "(I)I"⟩, 28), (⟨"ContactWaysModel", "arrival", "(III)I"⟩, 28), (⟨"ContactWaysModel", "ticks", "(II)I"⟩, 28), (⟨"ContactWaysModel", "laysTaken", "(II)V"⟩, 28), (⟨"ContactWaysModel", "marks", "(III)V"⟩, 28), (⟨"ContactWaysModel", "findsEnd", "(IIIII)Z"⟩, 28), (⟨"ContactWaysModel", "laysFirst", "(IIIII)V"⟩, 28), (⟨"ContactWaysModel", "endsAt", "(III)I"⟩, 28), (⟨"ContactWaysModel", "beginsAt", "(III)I"⟩, 28)]
theorem lw_r3 : ∀ q ∈ lw_privs_3, lw_okq q := List.forall_mem_cons.mpr ⟨lw_p32, List.forall_mem_cons.mpr ⟨lw_p33, List.forall_mem_cons.mpr ⟨lw_p34, List.forall_mem_cons.mpr ⟨lw_p35, List.forall_mem_cons.mpr ⟨lw_p36, List.forall_mem_cons.mpr ⟨lw_p37, List.forall_mem_cons.mpr ⟨lw_p38, List.forall_mem_cons.mpr ⟨lw_p39, List.forall_mem_cons.mpr ⟨lw_p40, List.forall_mem_cons.mpr ⟨lw_p41, List.forall_mem_cons.mpr ⟨lw_p42, List.forall_mem_cons.mpr ⟨lw_p43, List.forall_mem_cons.mpr ⟨lw_p44, List.forall_mem_cons.mpr ⟨lw_p45, List.forall_mem_cons.mpr ⟨lw_p46, List.forall_mem_cons.mpr ⟨lw_p47, fun _ h => absurd h List.not_mem_nil⟩⟩⟩⟩⟩⟩⟩⟩⟩⟩⟩⟩⟩⟩⟩⟩
theorem lw_p48 : lw_okq (⟨"ContactWaysModel", "findsWay", "(IIII)V"⟩, 28) := ⟨⟨by decide +kernel, by decide +kernel⟩, List.mem_of_getElem? (i := 756) (by decide +kernel), List.mem_of_getElem? (i := 985) (by decide +kernel), List.mem_of_getElem? (i := 986) (by decide +kernel)⟩
theorem lw_p49 : lw_okq (⟨"ContactWaysModel", "leadsThere", "(IIIIII)Z"⟩, 28) := ⟨⟨by decide +kernel, by decide +kernel⟩, List.mem_of_getElem? (i := 756) (by decide +kernel), List.mem_of_getElem? (i := 989) (by decide +kernel), List.mem_of_getElem? (i := 990) (by decide +kernel)⟩
theorem lw_p50 : lw_okq (⟨"ContactWaysModel", "pushesOut", "(I)I"⟩, 28) := ⟨⟨by decide +kernel, by decide +kernel⟩, List.mem_of_getElem? (i := 756) (by decide +kernel), List.mem_of_getElem? (i := 993) (by decide +kernel), List.mem_of_getElem? (i := 994) (by decide +kernel)⟩
theorem lw_p51 : lw_okq (⟨"ContactWaysModel", "meets", "(IIII)Z"⟩, 28) := ⟨⟨by decide +kernel, by decide +kernel⟩, List.mem_of_getElem? (i := 756) (by decide +kernel), List.mem_of_getElem? (i := 997) (by decide +kernel), List.mem_of_getElem? (i := 998) (by decide +kernel)⟩
theorem lw_p52 : lw_okq (⟨"ContactWaysModel", "lastEnd", "(I)I"⟩, 28) := ⟨⟨by decide +kernel, by decide +kernel⟩, List.mem_of_getElem? (i := 756) (by decide +kernel), List.mem_of_getElem? (i := 1001) (by decide +kernel), List.mem_of_getElem? (i := 1002) (by decide +kernel)⟩
theorem lw_p53 : lw_okq (⟨"ContactWaysModel", "isBundle", "(I)Z"⟩, 28) := ⟨⟨by decide +kernel, by decide +kernel⟩, List.mem_of_getElem? (i := 756) (by decide +kernel), List.mem_of_getElem? (i := 1009) (by decide +kernel), List.mem_of_getElem? (i := 1010) (by decide +kernel)⟩
theorem lw_p54 : lw_okq (⟨"ContactWaysModel", "moves", "(I)V"⟩, 28) := ⟨⟨by decide +kernel, by decide +kernel⟩, List.mem_of_getElem? (i := 756) (by decide +kernel), List.mem_of_getElem? (i := 1017) (by decide +kernel), List.mem_of_getElem? (i := 1018) (by decide +kernel)⟩
theorem lw_p55 : lw_okq (⟨"ContactWaysModel", "loses", "(I)V"⟩, 28) := ⟨⟨by decide +kernel, by decide +kernel⟩, List.mem_of_getElem? (i := 756) (by decide +kernel), List.mem_of_getElem? (i := 1025) (by decide +kernel), List.mem_of_getElem? (i := 1026) (by decide +kernel)⟩
theorem lw_p56 : lw_okq (⟨"ContactWaysModel", "hasHopOn", "(II)Z"⟩, 28) := ⟨⟨by decide +kernel, by decide +kernel⟩, List.mem_of_getElem? (i := 756) (by decide +kernel), List.mem_of_getElem? (i := 1029) (by decide +kernel), List.mem_of_getElem? (i := 1030) (by decide +kernel)⟩
theorem lw_p57 : lw_okq (⟨"ContactWaysModel", "countOf", "(I)I"⟩, 28) := ⟨⟨by decide +kernel, by decide +kernel⟩, List.mem_of_getElem? (i := 756) (by decide +kernel), List.mem_of_getElem? (i := 1033) (by decide +kernel), List.mem_of_getElem? (i := 1034) (by decide +kernel)⟩
theorem lw_p58 : lw_okq (⟨"ContactWaysModel", "takesTick", "(IIII)Z"⟩, 28) := ⟨⟨by decide +kernel, by decide +kernel⟩, List.mem_of_getElem? (i := 756) (by decide +kernel), List.mem_of_getElem? (i := 1057) (by decide +kernel), List.mem_of_getElem? (i := 1058) (by decide +kernel)⟩
theorem lw_p59 : lw_okq (⟨"ContactWaysModel", "askedOf", "(IIIII)I"⟩, 28) := ⟨⟨by decide +kernel, by decide +kernel⟩, List.mem_of_getElem? (i := 756) (by decide +kernel), List.mem_of_getElem? (i := 1065) (by decide +kernel), List.mem_of_getElem? (i := 1066) (by decide +kernel)⟩
def lw_privs_4 : List (MethodName × Nat) := [(⟨"ContactWaysModel", "findsWay", "(IIII)V"⟩, 28), (⟨"ContactWaysModel", "leadsThere", "(IIIIII)Z"⟩, 28), (⟨"ContactWaysModel", "pushesOut", "(I)I"⟩, 28), (⟨"ContactWaysModel", "meets", "(IIII)Z"⟩, 28), (⟨"ContactWaysModel", "lastEnd", "(I)I"⟩, 28), (⟨"ContactWaysModel", "isBundle", "(I)Z"⟩, 28), (⟨"ContactWaysModel", "moves", "(I)V"⟩, 28), (⟨"ContactWaysModel", "loses", "(I)V"⟩, 28), (⟨"ContactWaysModel", "hasHopOn", "(II)Z"⟩, 28), (⟨"ContactWaysModel", "countOf", "(I)I"⟩, 28), (⟨"ContactWaysModel", "takesTick", "(IIII)Z"⟩, 28), (⟨"ContactWaysModel", "askedOf", "(IIIII)I"⟩, 28)]
theorem lw_r4 : ∀ q ∈ lw_privs_4, lw_okq q := List.forall_mem_cons.mpr ⟨lw_p48, List.forall_mem_cons.mpr ⟨lw_p49, List.forall_mem_cons.mpr ⟨lw_p50, List.forall_mem_cons.mpr ⟨lw_p51, List.forall_mem_cons.mpr ⟨lw_p52, List.forall_mem_cons.mpr ⟨lw_p53, List.forall_mem_cons.mpr ⟨lw_p54, List.forall_mem_cons.mpr ⟨lw_p55, List.forall_mem_cons.mpr ⟨lw_p56, List.forall_mem_cons.mpr ⟨lw_p57, List.forall_mem_cons.mpr ⟨lw_p58, List.forall_mem_cons.mpr ⟨lw_p59, fun _ h => absurd h List.not_mem_nil⟩⟩⟩⟩⟩⟩⟩⟩⟩⟩⟩⟩
def lw_privs : List (MethodName × Nat) := lw_privs_1 ++ (lw_privs_2 ++ (lw_privs_3 ++ (lw_privs_4)))
def lw_tbl : List Cond := k2_sels lw_privs ++ tables_1
theorem lw_privs_ok : ∀ q ∈ lw_privs, lw_okq q := by
  show ∀ q ∈ lw_privs_1 ++ (lw_privs_2 ++ (lw_privs_3 ++ (lw_privs_4))), lw_okq q
  exact List.forall_mem_append.mpr ⟨lw_r1, List.forall_mem_append.mpr ⟨lw_r2, List.forall_mem_append.mpr ⟨lw_r3, lw_r4⟩⟩⟩
def RX0 : String := "ContactWays$Bundle"
def TX0 : u_T := fun k => match k with
  | 0 => ("ContactWays$Bundle", "network", "LContactWays$Network;", true)
  | 1 => ("ContactWays$Bundle", "hops", "LContactWays$Table;", true)
  | 2 => ("ContactWays$Bundle", "node", "I", false)
  | 3 => ("ContactWays$Bundle", "goal", "I", false)
  | 4 => ("ContactWays$Bundle", "size", "I", false)
  | 5 => ("ContactWays$Bundle", "deadline", "I", false)
  | 6 => ("ContactWays$Bundle", "priority", "I", false)
  | 7 => ("ContactWays$Bundle", "dropped", "Z", false)
  | _ => ("ContactWays$Bundle", "reason", "I", false)
def tyX0 : Nat → FieldType := fun k => match k with
  | 0 => .object "ContactWays$Network"
  | 1 => .object "ContactWays$Table"
  | 2 => .int
  | 3 => .int
  | 4 => .int
  | 5 => .int
  | 6 => .int
  | 7 => .boolean
  | _ => .int
abbrev wsX00 : List Cond := u_ws RX0 TX0 9
theorem nmX0 : ∀ a, a < 9 → ∀ b, b < 9 → a ≠ b → (TX0 a).2.1 ≠ (TX0 b).2.1 := by decide +kernel
theorem tyX0_ok : ∀ k, k < 9 → parseFieldDescriptor (TX0 k).2.2.1 = some (tyX0 k) := by decide +kernel
abbrev cX0_init : ByteArray := prog_2_method_1_code
def yX0_init : MethodName := ⟨RX0, "<init>", "(LContactWays$Network;)V"⟩
abbrev cX0_start : ByteArray := prog_2_method_2_code
def yX0_start : MethodName := ⟨RX0, "start", "(IIIII)V"⟩
abbrev cX0_copyFrom : ByteArray := prog_2_method_3_code
def yX0_copyFrom : MethodName := ⟨RX0, "copyFrom", "(LContactWays$Bundle;)V"⟩
abbrev cX0_standing : ByteArray := prog_2_method_4_code
def yX0_standing : MethodName := ⟨RX0, "standing", "(I)I"⟩
abbrev cX0_lastNode : ByteArray := prog_2_method_5_code
def yX0_lastNode : MethodName := ⟨RX0, "lastNode", "()I"⟩
abbrev cX0_lastThere : ByteArray := prog_2_method_6_code
def yX0_lastThere : MethodName := ⟨RX0, "lastThere", "()I"⟩
abbrev cX0_property : ByteArray := prog_2_method_7_code
def yX0_property : MethodName := ⟨RX0, "property", "(II)I"⟩
abbrev cX0_drop : ByteArray := prog_2_method_8_code
def yX0_drop : MethodName := ⟨RX0, "drop", "(I)V"⟩
abbrev cX0_giveUpHopsToCome : ByteArray := prog_2_method_9_code
def yX0_giveUpHopsToCome : MethodName := ⟨RX0, "giveUpHopsToCome", "(I)V"⟩
abbrev cX0_hopsOnTheirWay : ByteArray := prog_2_method_10_code
def yX0_hopsOnTheirWay : MethodName := ⟨RX0, "hopsOnTheirWay", "(I)I"⟩
abbrev cX0_arrive : ByteArray := prog_2_method_11_code
def yX0_arrive : MethodName := ⟨RX0, "arrive", "(I)V"⟩
abbrev cX0_loses : ByteArray := prog_2_method_12_code
def yX0_loses : MethodName := ⟨RX0, "loses", "(II)Z"⟩
abbrev cX0_takes : ByteArray := prog_2_method_13_code
def yX0_takes : MethodName := ⟨RX0, "takes", "(II)Z"⟩
abbrev cX0_standsInTheWayOf : ByteArray := prog_2_method_14_code
def yX0_standsInTheWayOf : MethodName := ⟨RX0, "standsInTheWayOf", "(LContactWays$Bundle;I)Z"⟩
def RX1 : String := "ContactWays$Contact"
def TX1 : u_T := fun k => match k with
  | 0 => ("ContactWays$Contact", "from", "I", true)
  | 1 => ("ContactWays$Contact", "to", "I", true)
  | 2 => ("ContactWays$Contact", "start", "I", true)
  | 3 => ("ContactWays$Contact", "end", "I", true)
  | 4 => ("ContactWays$Contact", "rate", "I", true)
  | _ => ("ContactWays$Contact", "light", "I", true)
def tyX1 : Nat → FieldType := fun k => match k with
  | 0 => .int
  | 1 => .int
  | 2 => .int
  | 3 => .int
  | 4 => .int
  | _ => .int
abbrev wsX10 : List Cond := u_ws RX1 TX1 6
theorem nmX1 : ∀ a, a < 6 → ∀ b, b < 6 → a ≠ b → (TX1 a).2.1 ≠ (TX1 b).2.1 := by decide +kernel
theorem tyX1_ok : ∀ k, k < 6 → parseFieldDescriptor (TX1 k).2.2.1 = some (tyX1 k) := by decide +kernel
abbrev cX1_init : ByteArray := prog_3_method_1_code
def yX1_init : MethodName := ⟨RX1, "<init>", "(IIIIII)V"⟩
abbrev cX1_ticksFor : ByteArray := prog_3_method_2_code
def yX1_ticksFor : MethodName := ⟨RX1, "ticksFor", "(I)I"⟩
abbrev cX1_property : ByteArray := prog_3_method_3_code
def yX1_property : MethodName := ⟨RX1, "property", "(I)I"⟩
def RX2 : String := "ContactWays$History"
def TX2 : u_T := fun k => match k with
  | 0 => ("ContactWays$History", "spare", "LContactWays$Situation;", true)
  | 1 => ("ContactWays$History", "slots", "[LContactWays$Situation;", true)
  | 2 => ("ContactWays$History", "next", "I", false)
  | _ => ("ContactWays$History", "kept", "I", false)
def tyX2 : Nat → FieldType := fun k => match k with
  | 0 => .object "ContactWays$Situation"
  | 1 => .array (.object "ContactWays$Situation")
  | 2 => .int
  | _ => .int
abbrev wsX20 : List Cond := u_ws RX2 TX2 4
theorem nmX2 : ∀ a, a < 4 → ∀ b, b < 4 → a ≠ b → (TX2 a).2.1 ≠ (TX2 b).2.1 := by decide +kernel
theorem tyX2_ok : ∀ k, k < 4 → parseFieldDescriptor (TX2 k).2.2.1 = some (tyX2 k) := by decide +kernel
abbrev cX2_init : ByteArray := prog_4_method_1_code
def yX2_init : MethodName := ⟨RX2, "<init>", "(LContactWays$Network;)V"⟩
abbrev cX2_forgetAll : ByteArray := prog_4_method_2_code
def yX2_forgetAll : MethodName := ⟨RX2, "forgetAll", "()V"⟩
abbrev cX2_remember : ByteArray := prog_4_method_3_code
def yX2_remember : MethodName := ⟨RX2, "remember", "(LContactWays$Situation;)V"⟩
abbrev cX2_takeBack : ByteArray := prog_4_method_4_code
def yX2_takeBack : MethodName := ⟨RX2, "takeBack", "(LContactWays$Situation;)V"⟩
abbrev cX2_slotAt : ByteArray := prog_4_method_5_code
def yX2_slotAt : MethodName := ⟨RX2, "slotAt", "(I)LContactWays$Situation;"⟩
def RX3 : String := "ContactWays$Network"
def TX3 : u_T := fun k => match k with
  | 0 => ("ContactWays$Network", "nowhere", "LContactWays$Contact;", true)
  | 1 => ("ContactWays$Network", "contacts", "[LContactWays$Contact;", true)
  | 2 => ("ContactWays$Network", "contactCount", "I", false)
  | _ => ("ContactWays$Network", "nodes", "I", false)
def tyX3 : Nat → FieldType := fun k => match k with
  | 0 => .object "ContactWays$Contact"
  | 1 => .array (.object "ContactWays$Contact")
  | 2 => .int
  | _ => .int
abbrev wsX30 : List Cond := u_ws RX3 TX3 4
theorem nmX3 : ∀ a, a < 4 → ∀ b, b < 4 → a ≠ b → (TX3 a).2.1 ≠ (TX3 b).2.1 := by decide +kernel
theorem tyX3_ok : ∀ k, k < 4 → parseFieldDescriptor (TX3 k).2.2.1 = some (tyX3 k) := by decide +kernel
abbrev cX3_init : ByteArray := prog_5_method_1_code
def yX3_init : MethodName := ⟨RX3, "<init>", "()V"⟩
abbrev cX3_reset : ByteArray := prog_5_method_2_code
def yX3_reset : MethodName := ⟨RX3, "reset", "()V"⟩
abbrev cX3_hasNode : ByteArray := prog_5_method_3_code
def yX3_hasNode : MethodName := ⟨RX3, "hasNode", "(I)Z"⟩
abbrev cX3_hasContact : ByteArray := prog_5_method_4_code
def yX3_hasContact : MethodName := ⟨RX3, "hasContact", "(I)Z"⟩
abbrev cX3_hasRoom : ByteArray := prog_5_method_5_code
def yX3_hasRoom : MethodName := ⟨RX3, "hasRoom", "()Z"⟩
abbrev cX3_addContact : ByteArray := prog_5_method_6_code
def yX3_addContact : MethodName := ⟨RX3, "addContact", "(LContactWays$Contact;)V"⟩
abbrev cX3_contactAt : ByteArray := prog_5_method_7_code
def yX3_contactAt : MethodName := ⟨RX3, "contactAt", "(I)LContactWays$Contact;"⟩
abbrev cX3_copyFrom : ByteArray := prog_5_method_8_code
def yX3_copyFrom : MethodName := ⟨RX3, "copyFrom", "(LContactWays$Network;)V"⟩
def RX4 : String := "ContactWays$PlanReader"
def TX4 : u_T := fun k => match k with
  | 0 => ("ContactWays$PlanReader", "text", "LContactWays$Text;", true)
  | 1 => ("ContactWays$PlanReader", "draft", "LContactWays$Network;", true)
  | 2 => ("ContactWays$PlanReader", "position", "I", false)
  | _ => ("ContactWays$PlanReader", "fault", "I", false)
def tyX4 : Nat → FieldType := fun k => match k with
  | 0 => .object "ContactWays$Text"
  | 1 => .object "ContactWays$Network"
  | 2 => .int
  | _ => .int
abbrev wsX40 : List Cond := u_ws RX4 TX4 4
theorem nmX4 : ∀ a, a < 4 → ∀ b, b < 4 → a ≠ b → (TX4 a).2.1 ≠ (TX4 b).2.1 := by decide +kernel
theorem tyX4_ok : ∀ k, k < 4 → parseFieldDescriptor (TX4 k).2.2.1 = some (tyX4 k) := by decide +kernel
abbrev cX4_init : ByteArray := prog_6_method_1_code
def yX4_init : MethodName := ⟨RX4, "<init>", "(LContactWays$Text;)V"⟩
abbrev cX4_readPlan : ByteArray := prog_6_method_2_code
def yX4_readPlan : MethodName := ⟨RX4, "readPlan", "()I"⟩
abbrev cX4_readItem : ByteArray := prog_6_method_3_code
def yX4_readItem : MethodName := ⟨RX4, "readItem", "(Z)V"⟩
abbrev cX4_readNodes : ByteArray := prog_6_method_4_code
def yX4_readNodes : MethodName := ⟨RX4, "readNodes", "()V"⟩
abbrev cX4_readContact : ByteArray := prog_6_method_5_code
def yX4_readContact : MethodName := ⟨RX4, "readContact", "()V"⟩
abbrev cX4_readNumber : ByteArray := prog_6_method_6_code
def yX4_readNumber : MethodName := ⟨RX4, "readNumber", "(III)I"⟩
abbrev cX4_readSemicolon : ByteArray := prog_6_method_7_code
def yX4_readSemicolon : MethodName := ⟨RX4, "readSemicolon", "()V"⟩
abbrev cX4_skipBlanks : ByteArray := prog_6_method_8_code
def yX4_skipBlanks : MethodName := ⟨RX4, "skipBlanks", "()V"⟩
abbrev cX4_isDigit : ByteArray := prog_6_method_9_code
def yX4_isDigit : MethodName := ⟨RX4, "isDigit", "(I)Z"⟩
abbrev cX4_blame : ByteArray := prog_6_method_10_code
def yX4_blame : MethodName := ⟨RX4, "blame", "(I)V"⟩
def RX5 : String := "ContactWays$Planner"
def TX5 : u_T := fun k => match k with
  | _ => ("ContactWays$Planner", "router", "LContactWays$Router;", true)
def tyX5 : Nat → FieldType := fun k => match k with
  | _ => .object "ContactWays$Router"
abbrev wsX50 : List Cond := u_ws RX5 TX5 1
theorem nmX5 : ∀ a, a < 1 → ∀ b, b < 1 → a ≠ b → (TX5 a).2.1 ≠ (TX5 b).2.1 := by decide +kernel
theorem tyX5_ok : ∀ k, k < 1 → parseFieldDescriptor (TX5 k).2.2.1 = some (tyX5 k) := by decide +kernel
abbrev cX5_init : ByteArray := prog_7_method_1_code
def yX5_init : MethodName := ⟨RX5, "<init>", "(LContactWays$Router;)V"⟩
abbrev cX5_planAll : ByteArray := prog_7_method_2_code
def yX5_planAll : MethodName := ⟨RX5, "planAll", "(LContactWays$Situation;I)V"⟩
abbrev cX5_firstOf : ByteArray := prog_7_method_3_code
def yX5_firstOf : MethodName := ⟨RX5, "firstOf", "(LContactWays$Situation;I)I"⟩
abbrev cX5_planOne : ByteArray := prog_7_method_4_code
def yX5_planOne : MethodName := ⟨RX5, "planOne", "(LContactWays$Situation;I)Z"⟩
abbrev cX5_pushOut : ByteArray := prog_7_method_5_code
def yX5_pushOut : MethodName := ⟨RX5, "pushOut", "(LContactWays$Situation;I)I"⟩
def RX6 : String := "ContactWays$Router"
def TX6 : u_T := fun k => match k with
  | 0 => ("ContactWays$Router", "network", "LContactWays$Network;", true)
  | 1 => ("ContactWays$Router", "freeRuns", "LContactWays$Table;", true)
  | 2 => ("ContactWays$Router", "trail", "LContactWays$Table;", true)
  | 3 => ("ContactWays$Router", "best", "LContactWays$Table;", true)
  | 4 => ("ContactWays$Router", "bestThere", "I", false)
  | 5 => ("ContactWays$Router", "goal", "I", false)
  | 6 => ("ContactWays$Router", "size", "I", false)
  | _ => ("ContactWays$Router", "without", "I", false)
def tyX6 : Nat → FieldType := fun k => match k with
  | 0 => .object "ContactWays$Network"
  | 1 => .object "ContactWays$Table"
  | 2 => .object "ContactWays$Table"
  | 3 => .object "ContactWays$Table"
  | 4 => .int
  | 5 => .int
  | 6 => .int
  | _ => .int
abbrev wsX60 : List Cond := u_ws RX6 TX6 8
theorem nmX6 : ∀ a, a < 8 → ∀ b, b < 8 → a ≠ b → (TX6 a).2.1 ≠ (TX6 b).2.1 := by decide +kernel
theorem tyX6_ok : ∀ k, k < 8 → parseFieldDescriptor (TX6 k).2.2.1 = some (tyX6 k) := by decide +kernel
abbrev cX6_init : ByteArray := prog_8_method_1_code
def yX6_init : MethodName := ⟨RX6, "<init>", "(LContactWays$Network;)V"⟩
abbrev cX6_lookAt : ByteArray := prog_8_method_2_code
def yX6_lookAt : MethodName := ⟨RX6, "lookAt", "(LContactWays$Situation;I)V"⟩
abbrev cX6_openWindows : ByteArray := prog_8_method_3_code
def yX6_openWindows : MethodName := ⟨RX6, "openWindows", "(LContactWays$Situation;)V"⟩
abbrev cX6_closeTicks : ByteArray := prog_8_method_4_code
def yX6_closeTicks : MethodName := ⟨RX6, "closeTicks", "(LContactWays$Table;I)V"⟩
abbrev cX6_countRuns : ByteArray := prog_8_method_5_code
def yX6_countRuns : MethodName := ⟨RX6, "countRuns", "()V"⟩
abbrev cX6_seek : ByteArray := prog_8_method_6_code
def yX6_seek : MethodName := ⟨RX6, "seek", "(IIIII)I"⟩
abbrev cX6_explore : ByteArray := prog_8_method_7_code
def yX6_explore : MethodName := ⟨RX6, "explore", "(LContactWays$Router;IIII)V"⟩
abbrev cX6_firstBegin : ByteArray := prog_8_method_8_code
def yX6_firstBegin : MethodName := ⟨RX6, "firstBegin", "(III)I"⟩
abbrev cX6_setTrail : ByteArray := prog_8_method_9_code
def yX6_setTrail : MethodName := ⟨RX6, "setTrail", "(IIIII)V"⟩
def RX7 : String := "ContactWays$Situation"
def TX7 : u_T := fun k => match k with
  | 0 => ("ContactWays$Situation", "nobody", "LContactWays$Bundle;", true)
  | 1 => ("ContactWays$Situation", "bundles", "[LContactWays$Bundle;", true)
  | 2 => ("ContactWays$Situation", "bundleCount", "I", false)
  | 3 => ("ContactWays$Situation", "now", "I", false)
  | _ => ("ContactWays$Situation", "missed", "I", false)
def tyX7 : Nat → FieldType := fun k => match k with
  | 0 => .object "ContactWays$Bundle"
  | 1 => .array (.object "ContactWays$Bundle")
  | 2 => .int
  | 3 => .int
  | _ => .int
abbrev wsX70 : List Cond := u_ws RX7 TX7 5
theorem nmX7 : ∀ a, a < 5 → ∀ b, b < 5 → a ≠ b → (TX7 a).2.1 ≠ (TX7 b).2.1 := by decide +kernel
theorem tyX7_ok : ∀ k, k < 5 → parseFieldDescriptor (TX7 k).2.2.1 = some (tyX7 k) := by decide +kernel
abbrev cX7_init : ByteArray := prog_9_method_1_code
def yX7_init : MethodName := ⟨RX7, "<init>", "(LContactWays$Network;)V"⟩
abbrev cX7_reset : ByteArray := prog_9_method_2_code
def yX7_reset : MethodName := ⟨RX7, "reset", "()V"⟩
abbrev cX7_copyFrom : ByteArray := prog_9_method_3_code
def yX7_copyFrom : MethodName := ⟨RX7, "copyFrom", "(LContactWays$Situation;)V"⟩
abbrev cX7_hasBundle : ByteArray := prog_9_method_4_code
def yX7_hasBundle : MethodName := ⟨RX7, "hasBundle", "(I)Z"⟩
abbrev cX7_bundleAt : ByteArray := prog_9_method_5_code
def yX7_bundleAt : MethodName := ⟨RX7, "bundleAt", "(I)LContactWays$Bundle;"⟩
abbrev cX7_addBundle : ByteArray := prog_9_method_6_code
def yX7_addBundle : MethodName := ⟨RX7, "addBundle", "()I"⟩
abbrev cX7_isMissed : ByteArray := prog_9_method_7_code
def yX7_isMissed : MethodName := ⟨RX7, "isMissed", "(I)Z"⟩
abbrev cX7_isOpen : ByteArray := prog_9_method_8_code
def yX7_isOpen : MethodName := ⟨RX7, "isOpen", "(I)Z"⟩
abbrev cX7_countStanding : ByteArray := prog_9_method_9_code
def yX7_countStanding : MethodName := ⟨RX7, "countStanding", "(I)I"⟩
abbrev cX7_allStanding : ByteArray := prog_9_method_10_code
def yX7_allStanding : MethodName := ⟨RX7, "allStanding", "(I)I"⟩
abbrev cX7_tickAtGoal : ByteArray := prog_9_method_11_code
def yX7_tickAtGoal : MethodName := ⟨RX7, "tickAtGoal", "(I)I"⟩
abbrev cX7_takerOf : ByteArray := prog_9_method_12_code
def yX7_takerOf : MethodName := ⟨RX7, "takerOf", "(II)I"⟩
abbrev cX7_advance : ByteArray := prog_9_method_13_code
def yX7_advance : MethodName := ⟨RX7, "advance", "(I)V"⟩
abbrev cX7_lose : ByteArray := prog_9_method_14_code
def yX7_lose : MethodName := ⟨RX7, "lose", "(I)I"⟩
abbrev cX7_regain : ByteArray := prog_9_method_15_code
def yX7_regain : MethodName := ⟨RX7, "regain", "(I)I"⟩
def RX8 : String := "ContactWays$Table"
def TX8 : u_T := fun k => match k with
  | 0 => ("ContactWays$Table", "columns", "I", true)
  | 1 => ("ContactWays$Table", "cells", "[I", true)
  | _ => ("ContactWays$Table", "rows", "I", false)
def tyX8 : Nat → FieldType := fun k => match k with
  | 0 => .int
  | 1 => .array .int
  | _ => .int
abbrev wsX80 : List Cond := u_ws RX8 TX8 3
theorem nmX8 : ∀ a, a < 3 → ∀ b, b < 3 → a ≠ b → (TX8 a).2.1 ≠ (TX8 b).2.1 := by decide +kernel
theorem tyX8_ok : ∀ k, k < 3 → parseFieldDescriptor (TX8 k).2.2.1 = some (tyX8 k) := by decide +kernel
abbrev cX8_init : ByteArray := prog_10_method_1_code
def yX8_init : MethodName := ⟨RX8, "<init>", "(II)V"⟩
abbrev cX8_at : ByteArray := prog_10_method_2_code
def yX8_at : MethodName := ⟨RX8, "at", "(II)I"⟩
abbrev cX8_put : ByteArray := prog_10_method_3_code
def yX8_put : MethodName := ⟨RX8, "put", "(III)V"⟩
abbrev cX8_addRow : ByteArray := prog_10_method_4_code
def yX8_addRow : MethodName := ⟨RX8, "addRow", "()I"⟩
abbrev cX8_cut : ByteArray := prog_10_method_5_code
def yX8_cut : MethodName := ⟨RX8, "cut", "(I)V"⟩
abbrev cX8_removeFirstRow : ByteArray := prog_10_method_6_code
def yX8_removeFirstRow : MethodName := ⟨RX8, "removeFirstRow", "()V"⟩
abbrev cX8_copyFrom : ByteArray := prog_10_method_7_code
def yX8_copyFrom : MethodName := ⟨RX8, "copyFrom", "(LContactWays$Table;)V"⟩
abbrev cX8_appendFrom : ByteArray := prog_10_method_8_code
def yX8_appendFrom : MethodName := ⟨RX8, "appendFrom", "(LContactWays$Table;)V"⟩
def RX9 : String := "ContactWays$Text"
def TX9 : u_T := fun k => match k with
  | 0 => ("ContactWays$Text", "bytes", "[I", true)
  | _ => ("ContactWays$Text", "length", "I", false)
def tyX9 : Nat → FieldType := fun k => match k with
  | 0 => .array .int
  | _ => .int
abbrev wsX90 : List Cond := u_ws RX9 TX9 2
theorem nmX9 : ∀ a, a < 2 → ∀ b, b < 2 → a ≠ b → (TX9 a).2.1 ≠ (TX9 b).2.1 := by decide +kernel
theorem tyX9_ok : ∀ k, k < 2 → parseFieldDescriptor (TX9 k).2.2.1 = some (tyX9 k) := by decide +kernel
abbrev cX9_init : ByteArray := prog_11_method_1_code
def yX9_init : MethodName := ⟨RX9, "<init>", "()V"⟩
abbrev cX9_isFull : ByteArray := prog_11_method_2_code
def yX9_isFull : MethodName := ⟨RX9, "isFull", "()Z"⟩
abbrev cX9_append : ByteArray := prog_11_method_3_code
def yX9_append : MethodName := ⟨RX9, "append", "(I)V"⟩
abbrev cX9_empty : ByteArray := prog_11_method_4_code
def yX9_empty : MethodName := ⟨RX9, "empty", "()V"⟩
abbrev cX9_byteAt : ByteArray := prog_11_method_5_code
def yX9_byteAt : MethodName := ⟨RX9, "byteAt", "(I)I"⟩
def RX10 : String := "ContactWays"
def TX10 : u_T := fun k => match k with
  | 0 => ("ContactWays", "text", "LContactWays$Text;", true)
  | 1 => ("ContactWays", "reader", "LContactWays$PlanReader;", true)
  | 2 => ("ContactWays", "network", "LContactWays$Network;", true)
  | 3 => ("ContactWays", "router", "LContactWays$Router;", true)
  | 4 => ("ContactWays", "planner", "LContactWays$Planner;", true)
  | 5 => ("ContactWays", "present", "LContactWays$Situation;", true)
  | 6 => ("ContactWays", "trial", "LContactWays$Situation;", true)
  | 7 => ("ContactWays", "history", "LContactWays$History;", true)
  | 8 => ("ContactWays", "firstImage", "LContactWays$Situation;", true)
  | 9 => ("ContactWays", "secondImage", "LContactWays$Situation;", true)
  | 10 => ("ContactWays", "observations", "LContactWays$Table;", true)
  | _ => ("ContactWays", "savedImages", "I", false)
def tyX10 : Nat → FieldType := fun k => match k with
  | 0 => .object "ContactWays$Text"
  | 1 => .object "ContactWays$PlanReader"
  | 2 => .object "ContactWays$Network"
  | 3 => .object "ContactWays$Router"
  | 4 => .object "ContactWays$Planner"
  | 5 => .object "ContactWays$Situation"
  | 6 => .object "ContactWays$Situation"
  | 7 => .object "ContactWays$History"
  | 8 => .object "ContactWays$Situation"
  | 9 => .object "ContactWays$Situation"
  | 10 => .object "ContactWays$Table"
  | _ => .int
abbrev wsX100 : List Cond := u_ws RX10 TX10 12
theorem nmX10 : ∀ a, a < 12 → ∀ b, b < 12 → a ≠ b → (TX10 a).2.1 ≠ (TX10 b).2.1 := by decide +kernel
theorem tyX10_ok : ∀ k, k < 12 → parseFieldDescriptor (TX10 k).2.2.1 = some (tyX10 k) := by decide +kernel
abbrev cX10_init : ByteArray := prog_1_method_1_code
def yX10_init : MethodName := ⟨RX10, "<init>", "()V"⟩
abbrev cX10_type : ByteArray := prog_1_method_2_code
def yX10_type : MethodName := ⟨RX10, "type", "(I)I"⟩
abbrev cX10_clear : ByteArray := prog_1_method_3_code
def yX10_clear : MethodName := ⟨RX10, "clear", "()I"⟩
abbrev cX10_plan : ByteArray := prog_1_method_4_code
def yX10_plan : MethodName := ⟨RX10, "plan", "()I"⟩
abbrev cX10_contact : ByteArray := prog_1_method_5_code
def yX10_contact : MethodName := ⟨RX10, "contact", "(II)I"⟩
abbrev cX10_sends : ByteArray := prog_1_method_6_code
def yX10_sends : MethodName := ⟨RX10, "sends", "(IIIII)I"⟩
abbrev cX10_drops : ByteArray := prog_1_method_7_code
def yX10_drops : MethodName := ⟨RX10, "drops", "(I)I"⟩
abbrev cX10_passes : ByteArray := prog_1_method_8_code
def yX10_passes : MethodName := ⟨RX10, "passes", "(I)I"⟩
abbrev cX10_misses : ByteArray := prog_1_method_9_code
def yX10_misses : MethodName := ⟨RX10, "misses", "(I)I"⟩
abbrev cX10_finds : ByteArray := prog_1_method_10_code
def yX10_finds : MethodName := ⟨RX10, "finds", "(I)I"⟩
abbrev cX10_undo : ByteArray := prog_1_method_11_code
def yX10_undo : MethodName := ⟨RX10, "undo", "()I"⟩
abbrev cX10_bundle : ByteArray := prog_1_method_12_code
def yX10_bundle : MethodName := ⟨RX10, "bundle", "(II)I"⟩
abbrev cX10_hop : ByteArray := prog_1_method_13_code
def yX10_hop : MethodName := ⟨RX10, "hop", "(III)I"⟩
abbrev cX10_tick : ByteArray := prog_1_method_14_code
def yX10_tick : MethodName := ⟨RX10, "tick", "(II)I"⟩
abbrev cX10_asks : ByteArray := prog_1_method_15_code
def yX10_asks : MethodName := ⟨RX10, "asks", "(IIII)I"⟩
abbrev cX10_largest : ByteArray := prog_1_method_16_code
def yX10_largest : MethodName := ⟨RX10, "largest", "(IIII)I"⟩
abbrev cX10_worst : ByteArray := prog_1_method_17_code
def yX10_worst : MethodName := ⟨RX10, "worst", "()I"⟩
abbrev cX10_sees : ByteArray := prog_1_method_18_code
def yX10_sees : MethodName := ⟨RX10, "sees", "(III)I"⟩
abbrev cX10_forget : ByteArray := prog_1_method_19_code
def yX10_forget : MethodName := ⟨RX10, "forget", "()I"⟩
abbrev cX10_unseen : ByteArray := prog_1_method_20_code
def yX10_unseen : MethodName := ⟨RX10, "unseen", "()I"⟩
abbrev cX10_keep : ByteArray := prog_1_method_21_code
def yX10_keep : MethodName := ⟨RX10, "keep", "(I)I"⟩
abbrev cX10_back : ByteArray := prog_1_method_22_code
def yX10_back : MethodName := ⟨RX10, "back", "(I)I"⟩
abbrev cX10_count : ByteArray := prog_1_method_23_code
def yX10_count : MethodName := ⟨RX10, "count", "(I)I"⟩
abbrev cX10_isWithin : ByteArray := prog_1_method_24_code
def yX10_isWithin : MethodName := ⟨RX10, "isWithin", "(III)Z"⟩
abbrev cX10_isSendable : ByteArray := prog_1_method_25_code
def yX10_isSendable : MethodName := ⟨RX10, "isSendable", "(IIII)Z"⟩
abbrev cX10_predict : ByteArray := prog_1_method_26_code
def yX10_predict : MethodName := ⟨RX10, "predict", "(IIII)I"⟩
abbrev cX10_explainsAll : ByteArray := prog_1_method_27_code
def yX10_explainsAll : MethodName := ⟨RX10, "explainsAll", "(I)Z"⟩
abbrev cX10_imageAt : ByteArray := prog_1_method_28_code
def yX10_imageAt : MethodName := ⟨RX10, "imageAt", "(I)LContactWays$Situation;"⟩
def RX11 : String := "ContactWaysModel"
def TX11 : u_T := fun k => match k with
  | 0 => ("ContactWaysModel", "thrown", "I", false)
  | 1 => ("ContactWaysModel", "nodes", "I", false)
  | 2 => ("ContactWaysModel", "contacts", "I", false)
  | 3 => ("ContactWaysModel", "of", "[I", true)
  | 4 => ("ContactWaysModel", "readNodes", "I", false)
  | 5 => ("ContactWaysModel", "readContacts", "I", false)
  | 6 => ("ContactWaysModel", "read", "[I", true)
  | 7 => ("ContactWaysModel", "s", "[I", true)
  | 8 => ("ContactWaysModel", "undos", "I", false)
  | 9 => ("ContactWaysModel", "past", "[I", true)
  | 10 => ("ContactWaysModel", "kept", "[I", true)
  | 11 => ("ContactWaysModel", "isKept", "[Z", true)
  | 12 => ("ContactWaysModel", "aside", "[I", true)
  | 13 => ("ContactWaysModel", "seen", "I", false)
  | 14 => ("ContactWaysModel", "seenNode", "[I", true)
  | 15 => ("ContactWaysModel", "seenGoal", "[I", true)
  | 16 => ("ContactWaysModel", "seenIs", "[I", true)
  | 17 => ("ContactWaysModel", "letters", "I", false)
  | 18 => ("ContactWaysModel", "text", "[I", true)
  | 19 => ("ContactWaysModel", "next", "I", false)
  | 20 => ("ContactWaysModel", "begin", "I", false)
  | 21 => ("ContactWaysModel", "token", "I", false)
  | 22 => ("ContactWaysModel", "taken", "[Z", true)
  | 23 => ("ContactWaysModel", "first", "[I", true)
  | 24 => ("ContactWaysModel", "wayMany", "I", false)
  | 25 => ("ContactWaysModel", "wayContact", "[I", true)
  | 26 => ("ContactWaysModel", "wayBegin", "[I", true)
  | _ => ("ContactWaysModel", "wayEnd", "I", false)
def tyX11 : Nat → FieldType := fun k => match k with
  | 0 => .int
  | 1 => .int
  | 2 => .int
  | 3 => .array .int
  | 4 => .int
  | 5 => .int
  | 6 => .array .int
  | 7 => .array .int
  | 8 => .int
  | 9 => .array .int
  | 10 => .array .int
  | 11 => .array .boolean
  | 12 => .array .int
  | 13 => .int
  | 14 => .array .int
  | 15 => .array .int
  | 16 => .array .int
  | 17 => .int
  | 18 => .array .int
  | 19 => .int
  | 20 => .int
  | 21 => .int
  | 22 => .array .boolean
  | 23 => .array .int
  | 24 => .int
  | 25 => .array .int
  | 26 => .array .int
  | _ => .int
abbrev wsX110 : List Cond := u_ws RX11 TX11 28
theorem nmX11 : ∀ a, a < 28 → ∀ b, b < 28 → a ≠ b → (TX11 a).2.1 ≠ (TX11 b).2.1 := by decide +kernel
theorem tyX11_ok : ∀ k, k < 28 → parseFieldDescriptor (TX11 k).2.2.1 = some (tyX11 k) := by decide +kernel
abbrev cX11_init : ByteArray := prog_13_method_1_code
def yX11_init : MethodName := ⟨RX11, "<init>", "()V"⟩
abbrev cX11_in : ByteArray := prog_13_method_3_code
def yX11_in : MethodName := ⟨RX11, "in", "(III)Z"⟩
abbrev cX11_isNode : ByteArray := prog_13_method_4_code
def yX11_isNode : MethodName := ⟨RX11, "isNode", "(I)Z"⟩
abbrev cX11_isContact : ByteArray := prog_13_method_5_code
def yX11_isContact : MethodName := ⟨RX11, "isContact", "(I)Z"⟩
abbrev cX11_isBundle : ByteArray := prog_13_method_6_code
def yX11_isBundle : MethodName := ⟨RX11, "isBundle", "(I)Z"⟩
abbrev cX11_isMissed : ByteArray := prog_13_method_7_code
def yX11_isMissed : MethodName := ⟨RX11, "isMissed", "(I)Z"⟩
abbrev cX11_type : ByteArray := prog_13_method_8_code
def yX11_type : MethodName := ⟨RX11, "type", "(I)I"⟩
abbrev cX11_clear : ByteArray := prog_13_method_9_code
def yX11_clear : MethodName := ⟨RX11, "clear", "()I"⟩
abbrev cX11_isFigure : ByteArray := prog_13_method_10_code
def yX11_isFigure : MethodName := ⟨RX11, "isFigure", "(I)Z"⟩
abbrev cX11_takes : ByteArray := prog_13_method_11_code
def yX11_takes : MethodName := ⟨RX11, "takes", "()V"⟩
abbrev cX11_reads : ByteArray := prog_13_method_12_code
def yX11_reads : MethodName := ⟨RX11, "reads", "(III)Z"⟩
abbrev cX11_readsContact : ByteArray := prog_13_method_13_code
def yX11_readsContact : MethodName := ⟨RX11, "readsContact", "()Z"⟩
abbrev cX11_readsNodes : ByteArray := prog_13_method_14_code
def yX11_readsNodes : MethodName := ⟨RX11, "readsNodes", "(I)Z"⟩
abbrev cX11_begins : ByteArray := prog_13_method_15_code
def yX11_begins : MethodName := ⟨RX11, "begins", "()V"⟩
abbrev cX11_becomes : ByteArray := prog_13_method_16_code
def yX11_becomes : MethodName := ⟨RX11, "becomes", "()V"⟩
abbrev cX11_plan : ByteArray := prog_13_method_17_code
def yX11_plan : MethodName := ⟨RX11, "plan", "()I"⟩
abbrev cX11_contact : ByteArray := prog_13_method_18_code
def yX11_contact : MethodName := ⟨RX11, "contact", "(II)I"⟩
abbrev cX11_at : ByteArray := prog_13_method_19_code
def yX11_at : MethodName := ⟨RX11, "at", "(I)I"⟩
abbrev cX11_its : ByteArray := prog_13_method_20_code
def yX11_its : MethodName := ⟨RX11, "its", "(II)I"⟩
abbrev cX11_ticks : ByteArray := prog_13_method_21_code
def yX11_ticks : MethodName := ⟨RX11, "ticks", "(II)I"⟩
abbrev cX11_arrival : ByteArray := prog_13_method_22_code
def yX11_arrival : MethodName := ⟨RX11, "arrival", "(III)I"⟩
abbrev cX11_isOn : ByteArray := prog_13_method_23_code
def yX11_isOn : MethodName := ⟨RX11, "isOn", "(I)Z"⟩
abbrev cX11_leads : ByteArray := prog_13_method_24_code
def yX11_leads : MethodName := ⟨RX11, "leads", "(I)I"⟩
abbrev cX11_stateOf : ByteArray := prog_13_method_25_code
def yX11_stateOf : MethodName := ⟨RX11, "stateOf", "(I)I"⟩
abbrev cX11_countOf : ByteArray := prog_13_method_26_code
def yX11_countOf : MethodName := ⟨RX11, "countOf", "(I)I"⟩
abbrev cX11_marks : ByteArray := prog_13_method_27_code
def yX11_marks : MethodName := ⟨RX11, "marks", "(III)V"⟩
abbrev cX11_laysTaken : ByteArray := prog_13_method_28_code
def yX11_laysTaken : MethodName := ⟨RX11, "laysTaken", "(II)V"⟩
abbrev cX11_beginsAt : ByteArray := prog_13_method_29_code
def yX11_beginsAt : MethodName := ⟨RX11, "beginsAt", "(III)I"⟩
abbrev cX11_endsAt : ByteArray := prog_13_method_30_code
def yX11_endsAt : MethodName := ⟨RX11, "endsAt", "(III)I"⟩
abbrev cX11_laysFirst : ByteArray := prog_13_method_31_code
def yX11_laysFirst : MethodName := ⟨RX11, "laysFirst", "(IIIII)V"⟩
abbrev cX11_leadsThere : ByteArray := prog_13_method_32_code
def yX11_leadsThere : MethodName := ⟨RX11, "leadsThere", "(IIIIII)Z"⟩
abbrev cX11_findsEnd : ByteArray := prog_13_method_33_code
def yX11_findsEnd : MethodName := ⟨RX11, "findsEnd", "(IIIII)Z"⟩
abbrev cX11_findsWay : ByteArray := prog_13_method_34_code
def yX11_findsWay : MethodName := ⟨RX11, "findsWay", "(IIII)V"⟩
abbrev cX11_has : ByteArray := prog_13_method_35_code
def yX11_has : MethodName := ⟨RX11, "has", "(II)Z"⟩
abbrev cX11_givesUp : ByteArray := prog_13_method_36_code
def yX11_givesUp : MethodName := ⟨RX11, "givesUp", "(I)V"⟩
abbrev cX11_meets : ByteArray := prog_13_method_37_code
def yX11_meets : MethodName := ⟨RX11, "meets", "(IIII)Z"⟩
abbrev cX11_pushesOut : ByteArray := prog_13_method_38_code
def yX11_pushesOut : MethodName := ⟨RX11, "pushesOut", "(I)I"⟩
abbrev cX11_plans : ByteArray := prog_13_method_39_code
def yX11_plans : MethodName := ⟨RX11, "plans", "(I)I"⟩
abbrev cX11_plansAll : ByteArray := prog_13_method_40_code
def yX11_plansAll : MethodName := ⟨RX11, "plansAll", "(I)V"⟩
abbrev cX11_copies : ByteArray := prog_13_method_41_code
def yX11_copies : MethodName := ⟨RX11, "copies", "([I[III)V"⟩
abbrev cX11_notes : ByteArray := prog_13_method_42_code
def yX11_notes : MethodName := ⟨RX11, "notes", "()V"⟩
abbrev cX11_sends : ByteArray := prog_13_method_43_code
def yX11_sends : MethodName := ⟨RX11, "sends", "(IIIII)I"⟩
abbrev cX11_lastEnd : ByteArray := prog_13_method_44_code
def yX11_lastEnd : MethodName := ⟨RX11, "lastEnd", "(I)I"⟩
abbrev cX11_drops : ByteArray := prog_13_method_45_code
def yX11_drops : MethodName := ⟨RX11, "drops", "(I)I"⟩
abbrev cX11_moves : ByteArray := prog_13_method_46_code
def yX11_moves : MethodName := ⟨RX11, "moves", "(I)V"⟩
abbrev cX11_passes : ByteArray := prog_13_method_47_code
def yX11_passes : MethodName := ⟨RX11, "passes", "(I)I"⟩
abbrev cX11_hasHopOn : ByteArray := prog_13_method_48_code
def yX11_hasHopOn : MethodName := ⟨RX11, "hasHopOn", "(II)Z"⟩
abbrev cX11_loses : ByteArray := prog_13_method_49_code
def yX11_loses : MethodName := ⟨RX11, "loses", "(I)V"⟩
abbrev cX11_misses : ByteArray := prog_13_method_50_code
def yX11_misses : MethodName := ⟨RX11, "misses", "(I)I"⟩
abbrev cX11_finds : ByteArray := prog_13_method_51_code
def yX11_finds : MethodName := ⟨RX11, "finds", "(I)I"⟩
abbrev cX11_undo : ByteArray := prog_13_method_52_code
def yX11_undo : MethodName := ⟨RX11, "undo", "()I"⟩
abbrev cX11_bundle : ByteArray := prog_13_method_53_code
def yX11_bundle : MethodName := ⟨RX11, "bundle", "(II)I"⟩
abbrev cX11_hop : ByteArray := prog_13_method_54_code
def yX11_hop : MethodName := ⟨RX11, "hop", "(III)I"⟩
abbrev cX11_takesTick : ByteArray := prog_13_method_55_code
def yX11_takesTick : MethodName := ⟨RX11, "takesTick", "(IIII)Z"⟩
abbrev cX11_tick : ByteArray := prog_13_method_56_code
def yX11_tick : MethodName := ⟨RX11, "tick", "(II)I"⟩
abbrev cX11_askedOf : ByteArray := prog_13_method_57_code
def yX11_askedOf : MethodName := ⟨RX11, "askedOf", "(IIIII)I"⟩
abbrev cX11_asks : ByteArray := prog_13_method_58_code
def yX11_asks : MethodName := ⟨RX11, "asks", "(IIII)I"⟩
abbrev cX11_largest : ByteArray := prog_13_method_59_code
def yX11_largest : MethodName := ⟨RX11, "largest", "(IIII)I"⟩
abbrev cX11_worst : ByteArray := prog_13_method_60_code
def yX11_worst : MethodName := ⟨RX11, "worst", "()I"⟩
abbrev cX11_sees : ByteArray := prog_13_method_61_code
def yX11_sees : MethodName := ⟨RX11, "sees", "(III)I"⟩
abbrev cX11_forget : ByteArray := prog_13_method_62_code
def yX11_forget : MethodName := ⟨RX11, "forget", "()I"⟩
abbrev cX11_unseen : ByteArray := prog_13_method_63_code
def yX11_unseen : MethodName := ⟨RX11, "unseen", "()I"⟩
abbrev cX11_keep : ByteArray := prog_13_method_64_code
def yX11_keep : MethodName := ⟨RX11, "keep", "(I)I"⟩
abbrev cX11_back : ByteArray := prog_13_method_65_code
def yX11_back : MethodName := ⟨RX11, "back", "(I)I"⟩
abbrev cX11_count : ByteArray := prog_13_method_66_code
def yX11_count : MethodName := ⟨RX11, "count", "(I)I"⟩
def RJ6 : String := "java/lang/Integer"
def TJ6 : u_T := fun k => match k with
  | _ => ("", "", "", false)
def tyJ6 : Nat → FieldType := fun k => match k with
  | _ => .int
abbrev wsJ60 : List Cond := u_ws RJ6 TJ6 0
theorem nmJ6 : ∀ a, a < 0 → ∀ b, b < 0 → a ≠ b → (TJ6 a).2.1 ≠ (TJ6 b).2.1 := by decide +kernel
theorem tyJ6_ok : ∀ k, k < 0 → parseFieldDescriptor (TJ6 k).2.2.1 = some (tyJ6 k) := by decide +kernel
abbrev cJ6_bitCount_0f7a4 : ByteArray := prog_14_method_49_code
def yJ6_bitCount_0f7a4 : MethodName := ⟨RJ6, "bitCount", "(I)I"⟩
def RJ9 : String := "java/lang/Math"
def TJ9 : u_T := fun k => match k with
  | _ => ("", "", "", false)
def tyJ9 : Nat → FieldType := fun k => match k with
  | _ => .int
abbrev wsJ90 : List Cond := u_ws RJ9 TJ9 0
theorem nmJ9 : ∀ a, a < 0 → ∀ b, b < 0 → a ≠ b → (TJ9 a).2.1 ≠ (TJ9 b).2.1 := by decide +kernel
theorem tyJ9_ok : ∀ k, k < 0 → parseFieldDescriptor (TJ9 k).2.2.1 = some (tyJ9 k) := by decide +kernel
abbrev cJ9_max_7cf53 : ByteArray := prog_15_method_65_code
def yJ9_max_7cf53 : MethodName := ⟨RJ9, "max", "(II)I"⟩
abbrev cJ9_min_7cf53 : ByteArray := prog_15_method_69_code
def yJ9_min_7cf53 : MethodName := ⟨RJ9, "min", "(II)I"⟩
def RL : String := "ContactWaysLaw"
abbrev cL_law : ByteArray := code
def yL_law : MethodName := ⟨RL, "law", "([I)Z"⟩
abbrev vwCl : List vw_C := [(RX0, TX0, 9), (RX1, TX1, 6), (RX2, TX2, 4), (RX3, TX3, 4), (RX4, TX4, 4), (RX5, TX5, 1), (RX6, TX6, 8), (RX7, TX7, 5), (RX8, TX8, 3), (RX9, TX9, 2), (RX10, TX10, 12), (RX11, TX11, 28)]
def SHL : List (Nat × Nat) := [(10, 12), (9, 2), (20, 150), (4, 4), (3, 4), (1, 6), (23, 8), (3, 4), (1, 6), (23, 8), (6, 8), (8, 3), (20, 800), (8, 3), (20, 24), (8, 3), (20, 24), (5, 1), (7, 5), (0, 9), (8, 3), (20, 24), (22, 8), (0, 9), (8, 3), (20, 24), (0, 9), (8, 3), (20, 24), (0, 9), (8, 3), (20, 24), (0, 9), (8, 3), (20, 24), (0, 9), (8, 3), (20, 24), (0, 9), (8, 3), (20, 24), (0, 9), (8, 3), (20, 24), (0, 9), (8, 3), (20, 24), (7, 5), (0, 9), (8, 3), (20, 24), (22, 8), (0, 9), (8, 3), (20, 24), (0, 9), (8, 3), (20, 24), (0, 9), (8, 3), (20, 24), (0, 9), (8, 3), (20, 24), (0, 9), (8, 3), (20, 24), (0, 9), (8, 3), (20, 24), (0, 9), (8, 3), (20, 24), (0, 9), (8, 3), (20, 24), (2, 4), (7, 5), (0, 9), (8, 3), (20, 24), (22, 8), (0, 9), (8, 3), (20, 24), (0, 9), (8, 3), (20, 24), (0, 9), (8, 3), (20, 24), (0, 9), (8, 3), (20, 24), (0, 9), (8, 3), (20, 24), (0, 9), (8, 3), (20, 24), (0, 9), (8, 3), (20, 24), (0, 9), (8, 3), (20, 24), (24, 8), (7, 5), (0, 9), (8, 3), (20, 24), (22, 8), (0, 9), (8, 3), (20, 24), (0, 9), (8, 3), (20, 24), (0, 9), (8, 3), (20, 24), (0, 9), (8, 3), (20, 24), (0, 9), (8, 3), (20, 24), (0, 9), (8, 3), (20, 24), (0, 9), (8, 3), (20, 24), (0, 9), (8, 3), (20, 24), (7, 5), (0, 9), (8, 3), (20, 24), (22, 8), (0, 9), (8, 3), (20, 24), (0, 9), (8, 3), (20, 24), (0, 9), (8, 3), (20, 24), (0, 9), (8, 3), (20, 24), (0, 9), (8, 3), (20, 24), (0, 9), (8, 3), (20, 24), (0, 9), (8, 3), (20, 24), (0, 9), (8, 3), (20, 24), (7, 5), (0, 9), (8, 3), (20, 24), (22, 8), (0, 9), (8, 3), (20, 24), (0, 9), (8, 3), (20, 24), (0, 9), (8, 3), (20, 24), (0, 9), (8, 3), (20, 24), (0, 9), (8, 3), (20, 24), (0, 9), (8, 3), (20, 24), (0, 9), (8, 3), (20, 24), (0, 9), (8, 3), (20, 24), (7, 5), (0, 9), (8, 3), (20, 24), (22, 8), (0, 9), (8, 3), (20, 24), (0, 9), (8, 3), (20, 24), (0, 9), (8, 3), (20, 24), (0, 9), (8, 3), (20, 24), (0, 9), (8, 3), (20, 24), (0, 9), (8, 3), (20, 24), (0, 9), (8, 3), (20, 24), (0, 9), (8, 3), (20, 24), (7, 5), (0, 9), (8, 3), (20, 24), (22, 8), (0, 9), (8, 3), (20, 24), (0, 9), (8, 3), (20, 24), (0, 9), (8, 3), (20, 24), (0, 9), (8, 3), (20, 24), (0, 9), (8, 3), (20, 24), (0, 9), (8, 3), (20, 24), (0, 9), (8, 3), (20, 24), (0, 9), (8, 3), (20, 24), (7, 5), (0, 9), (8, 3), (20, 24), (22, 8), (0, 9), (8, 3), (20, 24), (0, 9), (8, 3), (20, 24), (0, 9), (8, 3), (20, 24), (0, 9), (8, 3), (20, 24), (0, 9), (8, 3), (20, 24), (0, 9), (8, 3), (20, 24), (0, 9), (8, 3), (20, 24), (0, 9), (8, 3), (20, 24), (7, 5), (0, 9), (8, 3), (20, 24), (22, 8), (0, 9), (8, 3), (20, 24), (0, 9), (8, 3), (20, 24), (0, 9), (8, 3), (20, 24), (0, 9), (8, 3), (20, 24), (0, 9), (8, 3), (20, 24), (0, 9), (8, 3), (20, 24), (0, 9), (8, 3), (20, 24), (0, 9), (8, 3), (20, 24), (7, 5), (0, 9), (8, 3), (20, 24), (22, 8), (0, 9), (8, 3), (20, 24), (0, 9), (8, 3), (20, 24), (0, 9), (8, 3), (20, 24), (0, 9), (8, 3), (20, 24), (0, 9), (8, 3), (20, 24), (0, 9), (8, 3), (20, 24), (0, 9), (8, 3), (20, 24), (0, 9), (8, 3), (20, 24), (7, 5), (0, 9), (8, 3), (20, 24), (22, 8), (0, 9), (8, 3), (20, 24), (0, 9), (8, 3), (20, 24), (0, 9), (8, 3), (20, 24), (0, 9), (8, 3), (20, 24), (0, 9), (8, 3), (20, 24), (0, 9), (8, 3), (20, 24), (0, 9), (8, 3), (20, 24), (0, 9), (8, 3), (20, 24), (7, 5), (0, 9), (8, 3), (20, 24), (22, 8), (0, 9), (8, 3), (20, 24), (0, 9), (8, 3), (20, 24), (0, 9), (8, 3), (20, 24), (0, 9), (8, 3), (20, 24), (0, 9), (8, 3), (20, 24), (0, 9), (8, 3), (20, 24), (0, 9), (8, 3), (20, 24), (0, 9), (8, 3), (20, 24), (8, 3), (20, 18), (11, 28), (20, 48), (20, 48), (20, 163), (20, 1304), (20, 326), (21, 2), (20, 163), (20, 6), (20, 6), (20, 6), (20, 150), (21, 800), (20, 36), (20, 5), (20, 5)]
/-- kind and size of the cell at a place of the heap, counted from the start of the law; behind the 415 made by the constructors there are contacts alone -/
def SH (a : Int) : Nat × Nat := if a < 0 then (99, 0) else SHL.getD a.toNat (1, 6)
def tyC (c k : Nat) : FieldType := match c with
  | 0 => tyX0 k
  | 1 => tyX1 k
  | 2 => tyX2 k
  | 3 => tyX3 k
  | 4 => tyX4 k
  | 5 => tyX5 k
  | 6 => tyX6 k
  | 7 => tyX7 k
  | 8 => tyX8 k
  | 9 => tyX9 k
  | 10 => tyX10 k
  | _ => tyX11 k
end
section
-- the abstract heap, the judgement Wa over it, and its first rows
abbrev AV : Type := Int ⊕ Int
abbrev Mem : Type := Int → Int → Int
abbrev inR (n : Int) : Prop := -2147483648 ≤ n ∧ n < 2147483648
def I (n : Int) : Int32 := Int32.ofInt n
def wrap (n : Int) : Int := (n + 2147483648) % 4294967296 - 2147483648
theorem wrap_in (n : Int) : inR (wrap n) := by unfold wrap; constructor <;> omega
theorem wrap_eq {n : Int} (h : inR n) : wrap n = n := by unfold wrap; omega
theorem I_toInt {n : Int} (h : inR n) : (I n).toInt = n := Int32.toInt_ofInt_of_le h.1 h.2
theorem I_wrap (n : Int) : I (wrap n) = I n := by
  apply Int32.toInt_inj.mp
  rw [I_toInt (wrap_in n)]
  unfold I
  rw [Int32.toInt_ofInt]
  show wrap n = n.bmod 4294967296
  unfold wrap Int.bmod
  simp only []
  split <;> omega
theorem I_of (x : Int32) : I x.toInt = x := Int32.ofInt_toInt x
theorem I_inR (x : Int32) : inR x.toInt := ⟨Int32.le_toInt x, Int32.toInt_lt x⟩
theorem I_add (x y : Int) : I (x + y) = I x + I y := Int32.ofInt_add x y
theorem I_sub (x y : Int) : I (x - y) = I x - I y := Int32.ofInt_sub x y
theorem I_mul (x y : Int) : I (x * y) = I x * I y := Int32.ofInt_mul x y
theorem I_lt {x y : Int} (hx : inR x) (hy : inR y) : I x < I y ↔ x < y := by rw [Int32.lt_iff_toInt_lt, I_toInt hx, I_toInt hy]
theorem I_le {x y : Int} (hx : inR x) (hy : inR y) : I x ≤ I y ↔ x ≤ y := by rw [Int32.le_iff_toInt_le, I_toInt hx, I_toInt hy]
theorem I_eq {x y : Int} (hx : inR x) (hy : inR y) : I x = I y ↔ x = y := by rw [← Int32.toInt_inj, I_toInt hx, I_toInt hy]
theorem I_zero : (0 : Int32) = I 0 := rfl
theorem I_clamp {n : Int} (h : inR n) : (I n).toNatClampNeg = n.toNat := Int32.toNatClampNeg_ofInt_of_le h.1 h.2
theorem I_in {i : Int} {n : Nat} (h : inR i) (h0 : 0 ≤ i) (h1 : i < n) : vp_in (I i) n := by
  unfold vp_in
  rw [I_clamp h, I_zero, I_lt h (by constructor <;> omega)]
  omega
/-- a value: an int, or the place of a cell (null if negative) -/
def cv (b0 : Nat) (v : AV) : Value := match v with
  | .inl n => .int (I n)
  | .inr a => if a < 0 then .null else .ref (b0 + a.toNat)
theorem cv_ref {b0 : Nat} {a : Int} (h : 0 ≤ a) : cv b0 (.inr a) = .ref (b0 + a.toNat) := by
  show (if a < 0 then Value.null else Value.ref (b0 + a.toNat)) = _
  rw [if_neg (by omega)]
theorem cv_null {b0 : Nat} {a : Int} (h : a < 0) : cv b0 (.inr a) = .null := by
  show (if a < 0 then Value.null else Value.ref (b0 + a.toNat)) = _
  rw [if_pos h]
theorem cv_cat (b0 : Nat) (v : AV) : (cv b0 v).category = 1 := by
  cases v with
  | inl n => rfl
  | inr a =>
    show (if a < 0 then Value.null else Value.ref (b0 + a.toNat)).category = 1
    split <;> rfl
def okV (v : AV) : Prop := match v with
  | .inl n => inR n
  | .inr _ => True
def okS (st : List AV) : Prop := ∀ v ∈ st, okV v
def okL (L : List (Nat × AV)) : Prop := ∀ q ∈ L, okV q.2
def cvL (b0 : Nat) (L : List (Nat × AV)) : List (Nat × Value) := L.map fun q => (q.1, cv b0 q.2)
theorem okS_cons {v : AV} {st : List AV} (h : okV v) (t : okS st) : okS (v :: st) := fun x hx => by
  rcases List.mem_cons.mp hx with rfl | hx
  · exact h
  · exact t x hx
theorem okS_hd {v : AV} {st : List AV} (h : okS (v :: st)) : okV v := h v List.mem_cons_self
theorem okS_tl {v : AV} {st : List AV} (h : okS (v :: st)) : okS st := fun x hx => h x (List.mem_cons_of_mem _ hx)
def isRefT (t : FieldType) : Bool := match t with
  | .object _ => true
  | .array _ => true
  | _ => false
def av (t : FieldType) (v : Int) : AV := if isRefT t = true then .inr v else .inl v
def okT (t : FieldType) (v : Int) : Prop := match t with
  | .object _ => True
  | .array _ => True
  | .boolean => v = 0 ∨ v = 1
  | _ => inR v
theorem okT_av {t : FieldType} {v : Int} (h : okT t v) : okV (av t v) := by
  cases t <;> first | exact h | trivial | (rcases h with rfl | rfl <;> exact ⟨by decide, by decide⟩)
def ety (k j : Nat) : FieldType := if k < 12 then tyC k j else if k = 20 then .int else if k = 21 then .boolean else .object ""
abbrev GT : Type := Launch × Nat × va_G × (Nat → ClassId) × (Nat → Mem → Prop)
def gl (G : GT) : Launch := G.1
def gb (G : GT) : Nat := G.2.1
def gD (G : GT) : va_G := G.2.2.1
def gA (G : GT) : Nat → ClassId := G.2.2.2.1
def gx (G : GT) : Nat → Mem → Prop := G.2.2.2.2
def ent (cA : Nat → ClassId) (b0 : Nat) (μ : Mem) (i : Nat) : va_E :=
  if (SH i).1 < 12 then .inr ((SH i).1, (List.range (SH i).2).map (fun j => cv b0 (av (tyC (SH i).1 j) (μ i j))))
  else if (SH i).1 < 22 then .inl (cA (SH i).1, (SH i).2, .inl (fun j => I (μ i j)))
  else .inl (cA (SH i).1, (SH i).2, .inr (.inr (.inr (.inr (fun j => if μ i j < 0 then none else some (b0 + (μ i j).toNat))))))
def world (cA : Nat → ClassId) (b0 : Nat) (n : Nat) (μ : Mem) : va_W := (List.range n).map fun i => (b0 + i, ent cA b0 μ i)
theorem world_at {cA : Nat → ClassId} {b0 n i : Nat} {μ : Mem} (h : i < n) : (world cA b0 n μ)[i]? = some (b0 + i, ent cA b0 μ i) := by
  unfold world
  rw [List.getElem?_map, List.getElem?_range h]
  rfl
theorem world_none {cA : Nat → ClassId} {b0 n i : Nat} {μ : Mem} (h : n ≤ i) : (world cA b0 n μ)[i]? = none := by
  unfold world
  rw [List.getElem?_map, List.getElem?_eq_none (by simpa using h)]
  rfl
theorem world_some {cA : Nat → ClassId} {b0 n i : Nat} {μ : Mem} {q : Nat × va_E} (h : (world cA b0 n μ)[i]? = some q) : i < n ∧ q = (b0 + i, ent cA b0 μ i) := by
  by_cases hi : i < n
  · rw [world_at hi] at h
    exact ⟨hi, (Option.some.inj h).symm⟩
  · rw [world_none (by omega)] at h
    cases h
theorem world_D (cA : Nat → ClassId) (b0 n : Nat) (μ : Mem) : va_D (fun q : Nat => b0 ≤ q) (world cA b0 n μ) := by
  refine ⟨fun i j p q hi hj e => ?_, fun k q hk => ?_⟩
  · obtain ⟨-, rfl⟩ := world_some hi
    obtain ⟨-, rfl⟩ := world_some hj
    have e' : b0 + i = b0 + j := e
    omega
  · obtain ⟨-, rfl⟩ := world_some hk
    exact Nat.le_add_right _ _
theorem world_set {cA : Nat → ClassId} {b0 n i : Nat} {μ ν : Mem} {e : va_E} (h1 : ent cA b0 ν i = e) (h2 : ∀ j : Nat, j ≠ i → ent cA b0 ν j = ent cA b0 μ j) : (world cA b0 n μ).set i (b0 + i, e) = world cA b0 n ν := by
  apply List.ext_getElem?
  intro j
  by_cases hj : j < n
  · rw [world_at hj]
    by_cases hji : i = j
    · subst hji
      rw [List.getElem?_set_self (by simpa [world] using hj), h1]
    · rw [List.getElem?_set_ne hji, world_at hj, h2 j (Ne.symm hji)]
  · rw [world_none (by omega)]
    exact List.getElem?_eq_none (by simpa [world] using Nat.le_of_not_lt hj)
def tysG (cA : Nat → ClassId) : List (ClassId × FieldType) := [(cA 20, .int), (cA 21, .boolean), (cA 22, .object "ContactWays$Bundle"), (cA 23, .object "ContactWays$Contact"), (cA 24, .object "ContactWays$Situation")]
/-- what holds of the heap: each cell as the memory says, the numbers in range -/
def AH (G : GT) (n : Nat) (μ : Mem) (H : Heap) : Prop :=
  va_P (gD G) vwCl (world (gA G) (gb G) n μ) H ∧ H.size = gb G + n ∧ (∀ i j : Nat, i < n → j < (SH i).2 → okT (ety (SH i).1 j) (μ i j)) ∧ gx G n μ
def isNest (w : Cond) : Bool := match w with
  | .fieldLinkNest .. => true
  | .methodLinkNest .. => true
  | _ => false
def gT : List Cond := lw_tbl.filter goodWord
def gN : List Cond := lw_tbl.filter isNest
def K0 (G : GT) (U : State) : Prop := va_K (gD G) vwCl (tysG (gA G)) U ∧ (∀ w ∈ gN, va_Nw w U) ∧ va_AO "ContactWays$Bundle" U ∧ va_AO "ContactWays$Contact" U ∧ va_AO "ContactWays$Situation" U
theorem K0_warm {G : GT} {s U : State} (hW : s.WarmedH U.vm) (h : K0 G s) : K0 G U := by
  obtain ⟨h1, h2, h3, h4, h5⟩ := h
  refine ⟨va_K.moved hW.alike h1, fun w hw => ?_, va_AO.moved hW.alike h3, va_AO.moved hW.alike h4, va_AO.moved hW.alike h5⟩
  have hn : isNest w = true := (List.mem_filter.mp hw).2
  have h := h2 w hw
  cases w <;> first | exact va_Nw.warmF hW h | exact va_Nw.warmM hW h | (exact absurd hn (by decide)) | (simp [isNest] at hn)
theorem K0_calling {G : GT} {U : State} (g : JFrame) (mk : MethodId) (a : Array Value) (h : K0 G U) : K0 G (U.calling g mk a) := by
  obtain ⟨h1, h2, h3, h4, h5⟩ := h
  have hv : (U.calling g mk a).vm = U.vm := rfl
  refine ⟨va_K.moved (u := U) (U := U.calling g mk a) (Vm.Alike.refl U.vm) h1, fun w hw => ?_, va_AO.moved (u := U) (U := U.calling g mk a) (Vm.Alike.refl U.vm) h3, va_AO.moved (u := U) (U := U.calling g mk a) (Vm.Alike.refl U.vm) h4, va_AO.moved (u := U) (U := U.calling g mk a) (Vm.Alike.refl U.vm) h5⟩
  have hn : isNest w = true := (List.mem_filter.mp hw).2
  have h := h2 w hw
  cases w <;> first | exact va_tabs rfl hv.symm h | (simp [isNest] at hn)
/-- a method: its name, code, locals, return type, and its room: frames, locals, cells, slots -/
abbrev MD : Type := MethodName × ByteArray × Nat × Option FieldType × Nat × Nat × Nat × Nat
def rmOf (Y : MD) : Room := { frames := Y.2.2.2.2.1, cells := Y.2.2.2.2.2.2.1, slots := Y.2.2.2.2.2.2.2, locals := Y.2.2.2.2.2.1 }
def wsM (Y : MD) : List Cond := Cond.code Y.1 Y.2.1 Y.2.2.1 Y.2.2.2.1 :: gT
/-- the end that is wanted, and what is known of the start beside -/
abbrev ZT : Type := (List Frame → Array Value → State → State → Prop) × (Array Value → State → Prop)
def Cx (G : GT) (Y : MD) (Z : ZT) (p : Program) (s : State) (m : MethodId) (args : Array Value) (meth : Method) (c : Code) : Prop :=
  p.tables.exec = Jvm.exec ∧ c.code = Y.2.1 ∧ c.maxLocals = Y.2.2.1 ∧ meth.sig.returnType = Y.2.2.2.1 ∧ meth.locks = false ∧ (Y.1.name = "<init>" → meth.name = "<init>") ∧ s.vm.findClass Y.1.cls = some m.cls ∧
  (∀ w ∈ gT, w.before args s = true) ∧ K0 G s ∧ gb G ≤ s.heap.size ∧ Z.2 args s
/-- from here, with this memory, locals and stack, the machine comes to its end -/
def Wa (G : GT) (Y : MD) (Z : ZT) (cells slots : Nat) (n : Nat) (μ : Mem) (pc : Nat) (L : List (Nat × AV)) (st : List AV) : Prop :=
  ∀ (p : Program) (e : Env) (s : State) (m : MethodId) (args : Array Value) (below : List Frame) (meth : Method) (c : Code) (H : Heap) (locs : List Loc) (ls : Array Slot),
    Cx G Y Z p s m args meth c → AH G n μ H → va_S (fun q : Nat => gb G ≤ q) s.heap H locs → lv_has ls Y.2.2.1 (cvL (gb G) L) → okL L → okS st →
    W p (gl G) e (rmOf Y) s m args below meth c H locs cells slots (Z.1 below args s) (F0 m pc ls (st.map (cv (gb G))))
section RowsA
variable {G : GT} {Y : MD} {Z : ZT} {c0 s0 n pc : Nat} {μ : Mem} {L : List (Nat × AV)} {st : List AV}
theorem a_iconst {k : Int} (hd : decode Y.2.1 pc = .ok (.iconst k, 1)) (hr : inR k) (w : Wa G Y Z c0 s0 n μ (pc + 1) L (.inl k :: st)) : Wa G Y Z c0 s0 n μ pc L st := by
  intro p e s m args below meth c H locs ls C hA hS hl oL oS
  exact lv_iconst C.1 C.2.1 hd rfl (w p e s m args below meth c H locs ls C hA hS hl oL (okS_cons hr oS))
theorem a_bipush {k : Int} (hd : decode Y.2.1 pc = .ok (.bipush k, 2)) (hr : inR k) (hk : (Int8.ofInt k).toInt32 = I k) (w : Wa G Y Z c0 s0 n μ (pc + 2) L (.inl k :: st)) : Wa G Y Z c0 s0 n μ pc L st := by
  intro p e s m args below meth c H locs ls C hA hS hl oL oS
  exact lv_bipush C.1 C.2.1 hd hk (w p e s m args below meth c H locs ls C hA hS hl oL (okS_cons hr oS))
theorem a_sipush {k : Int} (hd : decode Y.2.1 pc = .ok (.sipush k, 3)) (hr : inR k) (hk : (Int16.ofInt k).toInt32 = I k) (w : Wa G Y Z c0 s0 n μ (pc + 3) L (.inl k :: st)) : Wa G Y Z c0 s0 n μ pc L st := by
  intro p e s m args below meth c H locs ls C hA hS hl oL oS
  exact lv_sipush C.1 C.2.1 hd hk (w p e s m args below meth c H locs ls C hA hS hl oL (okS_cons hr oS))
theorem cvL_at {b0 k i : Nat} {v : AV} {L : List (Nat × AV)} (h : L[k]? = some (i, v)) : (cvL b0 L)[k]? = some (i, cv b0 v) := by
  unfold cvL
  rw [List.getElem?_map, h]
  rfl
theorem okL_at {k i : Nat} {v : AV} {L : List (Nat × AV)} (o : okL L) (h : L[k]? = some (i, v)) : okV v := o (i, v) (List.mem_of_getElem? h)
theorem a_iload_n {q : Fin 4} {k : Nat} {i : Nat} {x : Int} (hd : decode Y.2.1 pc = .ok (.iload_n q, 1)) (hi : (q : Nat) = i) (hk : L[k]? = some (i, .inl x)) (w : Wa G Y Z c0 s0 n μ (pc + 1) L (.inl x :: st)) : Wa G Y Z c0 s0 n μ pc L st := by
  intro p e s m args below meth c H locs ls C hA hS hl oL oS
  exact lv_iload_n C.1 C.2.1 hd hi (lv_at hl k (cvL_at hk)) (w p e s m args below meth c H locs ls C hA hS hl oL (okS_cons (okL_at oL hk) oS))
theorem a_iload {k : Nat} {i : Nat} {x : Int} (hd : decode Y.2.1 pc = .ok (.iload i, 2)) (hk : L[k]? = some (i, .inl x)) (w : Wa G Y Z c0 s0 n μ (pc + 2) L (.inl x :: st)) : Wa G Y Z c0 s0 n μ pc L st := by
  intro p e s m args below meth c H locs ls C hA hS hl oL oS
  exact lv_iload C.1 C.2.1 hd (lv_at hl k (cvL_at hk)) (w p e s m args below meth c H locs ls C hA hS hl oL (okS_cons (okL_at oL hk) oS))
theorem a_aload_n {q : Fin 4} {k : Nat} {i : Nat} {x : Int} (hd : decode Y.2.1 pc = .ok (.aload_n q, 1)) (hi : (q : Nat) = i) (hk : L[k]? = some (i, .inr x)) (w : Wa G Y Z c0 s0 n μ (pc + 1) L (.inr x :: st)) : Wa G Y Z c0 s0 n μ pc L st := by
  intro p e s m args below meth c H locs ls C hA hS hl oL oS
  have w := w p e s m args below meth c H locs ls C hA hS hl oL (okS_cons trivial oS)
  have hl' := lv_at hl k (cvL_at hk)
  rw [List.map_cons] at w
  by_cases hx : x < 0
  · rw [cv_null hx] at hl' w
    exact lv_aload_nN C.1 C.2.1 hd hi hl' w
  · rw [cv_ref (by omega)] at hl' w
    exact lv_aload_n C.1 C.2.1 hd hi hl' w
theorem a_aload {k : Nat} {i : Nat} {x : Int} (hd : decode Y.2.1 pc = .ok (.aload i, 2)) (hk : L[k]? = some (i, .inr x)) (w : Wa G Y Z c0 s0 n μ (pc + 2) L (.inr x :: st)) : Wa G Y Z c0 s0 n μ pc L st := by
  intro p e s m args below meth c H locs ls C hA hS hl oL oS
  have w := w p e s m args below meth c H locs ls C hA hS hl oL (okS_cons trivial oS)
  have hl' := lv_at hl k (cvL_at hk)
  rw [List.map_cons] at w
  by_cases hx : x < 0
  · rw [cv_null hx] at hl' w
    exact lv_aloadN C.1 C.2.1 hd hl' w
  · rw [cv_ref (by omega)] at hl' w
    exact lv_aload C.1 C.2.1 hd hl' w
theorem cvL_filter (b0 i : Nat) (L : List (Nat × AV)) : (cvL b0 L).filter (fun q => !(q.1 == i) && !(q.1 + 1 == i && q.2.category == 2)) = cvL b0 (L.filter (fun q => !(q.1 == i))) := by
  unfold cvL
  rw [List.filter_map]
  congr 1
  apply List.filter_congr
  intro q _
  show (!(q.1 == i) && !(q.1 + 1 == i && (cv b0 q.2).category == 2)) = !(q.1 == i)
  rw [cv_cat]
  simp
theorem okL_put {i : Nat} {v : AV} {L : List (Nat × AV)} (hv : okV v) (o : okL L) : okL ((i, v) :: L.filter (fun q => !(q.1 == i))) := fun q hq => by
  rcases List.mem_cons.mp hq with rfl | hq
  · exact hv
  · exact o q (List.mem_filter.mp hq).1
/-- what a store leaves of the locals -/
abbrev putL (i : Nat) (v : AV) (L : List (Nat × AV)) : List (Nat × AV) := (i, v) :: L.filter (fun q => !(q.1 == i))
theorem a_istore_n {q : Fin 4} {i : Nat} {x : Int} (hd : decode Y.2.1 pc = .ok (.istore_n q, 1)) (hi : (q : Nat) = i) (hn : i < Y.2.2.1) (w : Wa G Y Z c0 s0 n μ (pc + 1) (putL i (.inl x) L) st) : Wa G Y Z c0 s0 n μ pc L (.inl x :: st) := by
  intro p e s m args below meth c H locs ls C hA hS hl oL oS
  exact lv_istore_n (lv' := cvL (gb G) (putL i (.inl x) L)) C.1 C.2.1 hd hi hl hn (by rw [cvL_filter]; rfl) (fun ls' hl' => w p e s m args below meth c H locs ls' C hA hS hl' (okL_put (okS_hd oS) oL) (okS_tl oS))
theorem a_istore {i : Nat} {x : Int} (hd : decode Y.2.1 pc = .ok (.istore i, 2)) (hn : i < Y.2.2.1) (w : Wa G Y Z c0 s0 n μ (pc + 2) (putL i (.inl x) L) st) : Wa G Y Z c0 s0 n μ pc L (.inl x :: st) := by
  intro p e s m args below meth c H locs ls C hA hS hl oL oS
  exact lv_istore (lv' := cvL (gb G) (putL i (.inl x) L)) C.1 C.2.1 hd hl hn (by rw [cvL_filter]; rfl) (fun ls' hl' => w p e s m args below meth c H locs ls' C hA hS hl' (okL_put (okS_hd oS) oL) (okS_tl oS))
theorem a_astore_n {q : Fin 4} {i : Nat} {x : Int} (hd : decode Y.2.1 pc = .ok (.astore_n q, 1)) (hi : (q : Nat) = i) (hn : i < Y.2.2.1) (w : Wa G Y Z c0 s0 n μ (pc + 1) (putL i (.inr x) L) st) : Wa G Y Z c0 s0 n μ pc L (.inr x :: st) := by
  intro p e s m args below meth c H locs ls C hA hS hl oL oS
  rw [List.map_cons]
  by_cases hx : x < 0
  · rw [cv_null hx]
    exact lv_astore_nN (lv' := cvL (gb G) (putL i (.inr x) L)) C.1 C.2.1 hd hi hl hn (by rw [cvL_filter, ← cv_null (b0 := gb G) hx]; rfl) (fun ls' hl' => w p e s m args below meth c H locs ls' C hA hS hl' (okL_put (okS_hd oS) oL) (okS_tl oS))
  · rw [cv_ref (by omega)]
    exact lv_astore_n (lv' := cvL (gb G) (putL i (.inr x) L)) C.1 C.2.1 hd hi hl hn (by rw [cvL_filter, ← cv_ref (b0 := gb G) (a := x) (by omega)]; rfl) (fun ls' hl' => w p e s m args below meth c H locs ls' C hA hS hl' (okL_put (okS_hd oS) oL) (okS_tl oS))
theorem a_astore {i : Nat} {x : Int} (hd : decode Y.2.1 pc = .ok (.astore i, 2)) (hn : i < Y.2.2.1) (w : Wa G Y Z c0 s0 n μ (pc + 2) (putL i (.inr x) L) st) : Wa G Y Z c0 s0 n μ pc L (.inr x :: st) := by
  intro p e s m args below meth c H locs ls C hA hS hl oL oS
  rw [List.map_cons]
  by_cases hx : x < 0
  · rw [cv_null hx]
    exact lv_astoreN (lv' := cvL (gb G) (putL i (.inr x) L)) C.1 C.2.1 hd hl hn (by rw [cvL_filter, ← cv_null (b0 := gb G) hx]; rfl) (fun ls' hl' => w p e s m args below meth c H locs ls' C hA hS hl' (okL_put (okS_hd oS) oL) (okS_tl oS))
  · rw [cv_ref (by omega)]
    exact lv_astore (lv' := cvL (gb G) (putL i (.inr x) L)) C.1 C.2.1 hd hl hn (by rw [cvL_filter, ← cv_ref (b0 := gb G) (a := x) (by omega)]; rfl) (fun ls' hl' => w p e s m args below meth c H locs ls' C hA hS hl' (okL_put (okS_hd oS) oL) (okS_tl oS))
theorem a_iinc {i k : Nat} {d x : Int} (hd : decode Y.2.1 pc = .ok (.iinc i d, 3)) (hk : L[k]? = some (i, .inl x)) (hr : inR (x + d)) (hn : i < Y.2.2.1) (w : Wa G Y Z c0 s0 n μ (pc + 3) (putL i (.inl (x + d)) L) st) : Wa G Y Z c0 s0 n μ pc L st := by
  intro p e s m args below meth c H locs ls C hA hS hl oL oS
  exact lv_iinc (v := I (x + d)) (lv' := cvL (gb G) (putL i (.inl (x + d)) L)) C.1 C.2.1 hd hl (k := k) (cvL_at hk) (by rw [I_add]; rfl) hn (by rw [cvL_filter]; rfl) (fun ls' hl' => w p e s m args below meth c H locs ls' C hA hS hl' (okL_put hr oL) oS)
/-- fewer locals, in another order: by their places -/
theorem a_sub {L' : List (Nat × AV)} (ks : List Nat) (hL : ks.filterMap (fun k => L[k]?) = L') (w : Wa G Y Z c0 s0 n μ pc L' st) : Wa G Y Z c0 s0 n μ pc L st := by
  intro p e s m args below meth c H locs ls C hA hS hl oL oS
  subst hL
  refine w p e s m args below meth c H locs ls C hA hS (lv_sub hl ks ?_) (fun q hq => ?_) oS
  · unfold lv_pick cvL
    rw [List.map_filterMap]
    congr 1
    funext k
    rw [List.getElem?_map]
  · obtain ⟨k, -, hk⟩ := List.mem_filterMap.mp hq
    exact oL q (List.mem_of_getElem? hk)
theorem a_iadd {x y : Int} (hd : decode Y.2.1 pc = .ok (.iadd, 1)) (hr : inR (x + y)) (w : Wa G Y Z c0 s0 n μ (pc + 1) L (.inl (x + y) :: st)) : Wa G Y Z c0 s0 n μ pc L (.inl y :: .inl x :: st) := by
  intro p e s m args below meth c H locs ls C hA hS hl oL oS
  have w := w p e s m args below meth c H locs ls C hA hS hl oL (okS_cons hr (okS_tl (okS_tl oS)))
  refine lv_iadd C.1 C.2.1 hd ?_
  rw [← I_add]
  exact w
theorem a_iaddw {x y : Int} (hd : decode Y.2.1 pc = .ok (.iadd, 1)) (w : Wa G Y Z c0 s0 n μ (pc + 1) L (.inl (wrap (x + y)) :: st)) : Wa G Y Z c0 s0 n μ pc L (.inl y :: .inl x :: st) := by
  intro p e s m args below meth c H locs ls C hA hS hl oL oS
  have w := w p e s m args below meth c H locs ls C hA hS hl oL (okS_cons (wrap_in _) (okS_tl (okS_tl oS)))
  refine lv_iadd C.1 C.2.1 hd ?_
  rw [← I_add, ← I_wrap]
  exact w
theorem a_isub {x y : Int} (hd : decode Y.2.1 pc = .ok (.isub, 1)) (hr : inR (x - y)) (w : Wa G Y Z c0 s0 n μ (pc + 1) L (.inl (x - y) :: st)) : Wa G Y Z c0 s0 n μ pc L (.inl y :: .inl x :: st) := by
  intro p e s m args below meth c H locs ls C hA hS hl oL oS
  have w := w p e s m args below meth c H locs ls C hA hS hl oL (okS_cons hr (okS_tl (okS_tl oS)))
  refine lv_isub C.1 C.2.1 hd ?_
  rw [← I_sub]
  exact w
theorem a_imul {x y : Int} (hd : decode Y.2.1 pc = .ok (.imul, 1)) (hr : inR (x * y)) (w : Wa G Y Z c0 s0 n μ (pc + 1) L (.inl (x * y) :: st)) : Wa G Y Z c0 s0 n μ pc L (.inl y :: .inl x :: st) := by
  intro p e s m args below meth c H locs ls C hA hS hl oL oS
  have w := w p e s m args below meth c H locs ls C hA hS hl oL (okS_cons hr (okS_tl (okS_tl oS)))
  refine lv_imul C.1 C.2.1 hd ?_
  rw [← I_mul]
  exact w
theorem a_imulw {x y : Int} (hd : decode Y.2.1 pc = .ok (.imul, 1)) (w : Wa G Y Z c0 s0 n μ (pc + 1) L (.inl (wrap (x * y)) :: st)) : Wa G Y Z c0 s0 n μ pc L (.inl y :: .inl x :: st) := by
  intro p e s m args below meth c H locs ls C hA hS hl oL oS
  have w := w p e s m args below meth c H locs ls C hA hS hl oL (okS_cons (wrap_in _) (okS_tl (okS_tl oS)))
  refine lv_imul C.1 C.2.1 hd ?_
  rw [← I_mul, ← I_wrap]
  exact w
end RowsA
end
section
-- rows of the judgement Wa: branches, fields, arrays, making, returning, calling
section RowsB
variable {G : GT} {Y : MD} {Z : ZT} {c0 s0 n pc : Nat} {μ : Mem} {L : List (Nat × AV)} {st : List AV}
theorem tgt_eq {a b : Int} (h : a = b) : a = b := h
theorem a_goto {off : Int} {tgt : Nat} (hd : decode Y.2.1 pc = .ok (.goto off, 3)) (ht : (pc : Int) + off = (tgt : Int)) (w : Wa G Y Z c0 s0 n μ tgt L st) : Wa G Y Z c0 s0 n μ pc L st := by
  intro p e s m args below meth c H locs ls C hA hS hl oL oS
  exact lv_goto C.1 C.2.1 hd ht (w p e s m args below meth c H locs ls C hA hS hl oL oS)
theorem zero_in : inR 0 := ⟨by decide, by decide⟩
theorem a_if_eq {x off : Int} {tgt : Nat} (hd : decode Y.2.1 pc = .ok (.ifCond .eq off, 3)) (ht : (pc : Int) + off = (tgt : Int)) (kt : x = 0 → Wa G Y Z c0 s0 n μ tgt L st) (kf : ¬ x = 0 → Wa G Y Z c0 s0 n μ (pc + 3) L st) : Wa G Y Z c0 s0 n μ pc L (.inl x :: st) := by
  intro p e s m args below meth c H locs ls C hA hS hl oL oS
  have hx : inR x := okS_hd oS
  exact lv_if_eq C.1 C.2.1 hd ht (fun h => kt ((I_eq hx zero_in).mp h) p e s m args below meth c H locs ls C hA hS hl oL (okS_tl oS)) (fun h => kf (fun q => h ((I_eq hx zero_in).mpr q)) p e s m args below meth c H locs ls C hA hS hl oL (okS_tl oS))
theorem a_if_ne {x off : Int} {tgt : Nat} (hd : decode Y.2.1 pc = .ok (.ifCond .ne off, 3)) (ht : (pc : Int) + off = (tgt : Int)) (kt : ¬ x = 0 → Wa G Y Z c0 s0 n μ tgt L st) (kf : x = 0 → Wa G Y Z c0 s0 n μ (pc + 3) L st) : Wa G Y Z c0 s0 n μ pc L (.inl x :: st) := by
  intro p e s m args below meth c H locs ls C hA hS hl oL oS
  have hx : inR x := okS_hd oS
  exact lv_if_ne C.1 C.2.1 hd ht (fun h => kt (fun q => h ((I_eq hx zero_in).mpr q)) p e s m args below meth c H locs ls C hA hS hl oL (okS_tl oS)) (fun h => kf ((I_eq hx zero_in).mp h) p e s m args below meth c H locs ls C hA hS hl oL (okS_tl oS))
theorem a_if_lt {x off : Int} {tgt : Nat} (hd : decode Y.2.1 pc = .ok (.ifCond .lt off, 3)) (ht : (pc : Int) + off = (tgt : Int)) (kt : x < 0 → Wa G Y Z c0 s0 n μ tgt L st) (kf : ¬ x < 0 → Wa G Y Z c0 s0 n μ (pc + 3) L st) : Wa G Y Z c0 s0 n μ pc L (.inl x :: st) := by
  intro p e s m args below meth c H locs ls C hA hS hl oL oS
  have hx : inR x := okS_hd oS
  exact lv_if_lt C.1 C.2.1 hd ht (fun h => kt ((I_lt hx zero_in).mp h) p e s m args below meth c H locs ls C hA hS hl oL (okS_tl oS)) (fun h => kf (fun q => h ((I_lt hx zero_in).mpr q)) p e s m args below meth c H locs ls C hA hS hl oL (okS_tl oS))
theorem a_if_ge {x off : Int} {tgt : Nat} (hd : decode Y.2.1 pc = .ok (.ifCond .ge off, 3)) (ht : (pc : Int) + off = (tgt : Int)) (kt : 0 ≤ x → Wa G Y Z c0 s0 n μ tgt L st) (kf : ¬ 0 ≤ x → Wa G Y Z c0 s0 n μ (pc + 3) L st) : Wa G Y Z c0 s0 n μ pc L (.inl x :: st) := by
  intro p e s m args below meth c H locs ls C hA hS hl oL oS
  have hx : inR x := okS_hd oS
  exact lv_if_ge C.1 C.2.1 hd ht (fun h => kt ((I_le zero_in hx).mp h) p e s m args below meth c H locs ls C hA hS hl oL (okS_tl oS)) (fun h => kf (fun q => h ((I_le zero_in hx).mpr q)) p e s m args below meth c H locs ls C hA hS hl oL (okS_tl oS))
theorem a_if_gt {x off : Int} {tgt : Nat} (hd : decode Y.2.1 pc = .ok (.ifCond .gt off, 3)) (ht : (pc : Int) + off = (tgt : Int)) (kt : 0 < x → Wa G Y Z c0 s0 n μ tgt L st) (kf : ¬ 0 < x → Wa G Y Z c0 s0 n μ (pc + 3) L st) : Wa G Y Z c0 s0 n μ pc L (.inl x :: st) := by
  intro p e s m args below meth c H locs ls C hA hS hl oL oS
  have hx : inR x := okS_hd oS
  exact lv_if_gt C.1 C.2.1 hd ht (fun h => kt ((I_lt zero_in hx).mp h) p e s m args below meth c H locs ls C hA hS hl oL (okS_tl oS)) (fun h => kf (fun q => h ((I_lt zero_in hx).mpr q)) p e s m args below meth c H locs ls C hA hS hl oL (okS_tl oS))
theorem a_if_le {x off : Int} {tgt : Nat} (hd : decode Y.2.1 pc = .ok (.ifCond .le off, 3)) (ht : (pc : Int) + off = (tgt : Int)) (kt : x ≤ 0 → Wa G Y Z c0 s0 n μ tgt L st) (kf : ¬ x ≤ 0 → Wa G Y Z c0 s0 n μ (pc + 3) L st) : Wa G Y Z c0 s0 n μ pc L (.inl x :: st) := by
  intro p e s m args below meth c H locs ls C hA hS hl oL oS
  have hx : inR x := okS_hd oS
  exact lv_if_le C.1 C.2.1 hd ht (fun h => kt ((I_le hx zero_in).mp h) p e s m args below meth c H locs ls C hA hS hl oL (okS_tl oS)) (fun h => kf (fun q => h ((I_le hx zero_in).mpr q)) p e s m args below meth c H locs ls C hA hS hl oL (okS_tl oS))
theorem a_icmp_eq {x y off : Int} {tgt : Nat} (hd : decode Y.2.1 pc = .ok (.if_icmp .eq off, 3)) (ht : (pc : Int) + off = (tgt : Int)) (kt : x = y → Wa G Y Z c0 s0 n μ tgt L st) (kf : ¬ x = y → Wa G Y Z c0 s0 n μ (pc + 3) L st) : Wa G Y Z c0 s0 n μ pc L (.inl y :: .inl x :: st) := by
  intro p e s m args below meth c H locs ls C hA hS hl oL oS
  have hy : inR y := okS_hd oS
  have hx : inR x := okS_hd (okS_tl oS)
  have o := okS_tl (okS_tl oS)
  exact lv_icmp_eq C.1 C.2.1 hd ht (fun h => kt ((I_eq hx hy).mp h) p e s m args below meth c H locs ls C hA hS hl oL o) (fun h => kf (fun q => h ((I_eq hx hy).mpr q)) p e s m args below meth c H locs ls C hA hS hl oL o)
theorem a_icmp_ne {x y off : Int} {tgt : Nat} (hd : decode Y.2.1 pc = .ok (.if_icmp .ne off, 3)) (ht : (pc : Int) + off = (tgt : Int)) (kt : ¬ x = y → Wa G Y Z c0 s0 n μ tgt L st) (kf : x = y → Wa G Y Z c0 s0 n μ (pc + 3) L st) : Wa G Y Z c0 s0 n μ pc L (.inl y :: .inl x :: st) := by
  intro p e s m args below meth c H locs ls C hA hS hl oL oS
  have hy : inR y := okS_hd oS
  have hx : inR x := okS_hd (okS_tl oS)
  have o := okS_tl (okS_tl oS)
  exact lv_icmp_ne C.1 C.2.1 hd ht (fun h => kt (fun q => h ((I_eq hx hy).mpr q)) p e s m args below meth c H locs ls C hA hS hl oL o) (fun h => kf ((I_eq hx hy).mp h) p e s m args below meth c H locs ls C hA hS hl oL o)
theorem a_icmp_lt {x y off : Int} {tgt : Nat} (hd : decode Y.2.1 pc = .ok (.if_icmp .lt off, 3)) (ht : (pc : Int) + off = (tgt : Int)) (kt : x < y → Wa G Y Z c0 s0 n μ tgt L st) (kf : ¬ x < y → Wa G Y Z c0 s0 n μ (pc + 3) L st) : Wa G Y Z c0 s0 n μ pc L (.inl y :: .inl x :: st) := by
  intro p e s m args below meth c H locs ls C hA hS hl oL oS
  have hy : inR y := okS_hd oS
  have hx : inR x := okS_hd (okS_tl oS)
  have o := okS_tl (okS_tl oS)
  exact lv_icmp_lt C.1 C.2.1 hd ht (fun h => kt ((I_lt hx hy).mp h) p e s m args below meth c H locs ls C hA hS hl oL o) (fun h => kf (fun q => h ((I_lt hx hy).mpr q)) p e s m args below meth c H locs ls C hA hS hl oL o)
theorem a_icmp_ge {x y off : Int} {tgt : Nat} (hd : decode Y.2.1 pc = .ok (.if_icmp .ge off, 3)) (ht : (pc : Int) + off = (tgt : Int)) (kt : y ≤ x → Wa G Y Z c0 s0 n μ tgt L st) (kf : ¬ y ≤ x → Wa G Y Z c0 s0 n μ (pc + 3) L st) : Wa G Y Z c0 s0 n μ pc L (.inl y :: .inl x :: st) := by
  intro p e s m args below meth c H locs ls C hA hS hl oL oS
  have hy : inR y := okS_hd oS
  have hx : inR x := okS_hd (okS_tl oS)
  have o := okS_tl (okS_tl oS)
  exact lv_icmp_ge C.1 C.2.1 hd ht (fun h => kt ((I_le hy hx).mp h) p e s m args below meth c H locs ls C hA hS hl oL o) (fun h => kf (fun q => h ((I_le hy hx).mpr q)) p e s m args below meth c H locs ls C hA hS hl oL o)
theorem a_icmp_gt {x y off : Int} {tgt : Nat} (hd : decode Y.2.1 pc = .ok (.if_icmp .gt off, 3)) (ht : (pc : Int) + off = (tgt : Int)) (kt : y < x → Wa G Y Z c0 s0 n μ tgt L st) (kf : ¬ y < x → Wa G Y Z c0 s0 n μ (pc + 3) L st) : Wa G Y Z c0 s0 n μ pc L (.inl y :: .inl x :: st) := by
  intro p e s m args below meth c H locs ls C hA hS hl oL oS
  have hy : inR y := okS_hd oS
  have hx : inR x := okS_hd (okS_tl oS)
  have o := okS_tl (okS_tl oS)
  exact lv_icmp_gt C.1 C.2.1 hd ht (fun h => kt ((I_lt hy hx).mp h) p e s m args below meth c H locs ls C hA hS hl oL o) (fun h => kf (fun q => h ((I_lt hy hx).mpr q)) p e s m args below meth c H locs ls C hA hS hl oL o)
theorem a_icmp_le {x y off : Int} {tgt : Nat} (hd : decode Y.2.1 pc = .ok (.if_icmp .le off, 3)) (ht : (pc : Int) + off = (tgt : Int)) (kt : x ≤ y → Wa G Y Z c0 s0 n μ tgt L st) (kf : ¬ x ≤ y → Wa G Y Z c0 s0 n μ (pc + 3) L st) : Wa G Y Z c0 s0 n μ pc L (.inl y :: .inl x :: st) := by
  intro p e s m args below meth c H locs ls C hA hS hl oL oS
  have hy : inR y := okS_hd oS
  have hx : inR x := okS_hd (okS_tl oS)
  have o := okS_tl (okS_tl oS)
  exact lv_icmp_le C.1 C.2.1 hd ht (fun h => kt ((I_le hx hy).mp h) p e s m args below meth c H locs ls C hA hS hl oL o) (fun h => kf (fun q => h ((I_le hx hy).mpr q)) p e s m args below meth c H locs ls C hA hS hl oL o)
theorem a_ifnonnull {x off : Int} {tgt : Nat} (hd : decode Y.2.1 pc = .ok (.ifnonnull off, 3)) (ht : (pc : Int) + off = (tgt : Int)) (kt : ¬ x < 0 → Wa G Y Z c0 s0 n μ tgt L st) (kf : x < 0 → Wa G Y Z c0 s0 n μ (pc + 3) L st) : Wa G Y Z c0 s0 n μ pc L (.inr x :: st) := by
  intro p e s m args below meth c H locs ls C hA hS hl oL oS
  rw [List.map_cons]
  by_cases h : x < 0
  · rw [cv_null h]
    exact lv_ifnonnullN C.1 C.2.1 hd (kf h p e s m args below meth c H locs ls C hA hS hl oL (okS_tl oS))
  · rw [cv_ref (by omega)]
    exact lv_ifnonnull C.1 C.2.1 hd ht (kt h p e s m args below meth c H locs ls C hA hS hl oL (okS_tl oS))
/-- a tableswitch: the way of each number, and the way beside -/
theorem a_table {x dflt lo hi : Int} {offs : Array Int} {len tgt : Nat} (hd : decode Y.2.1 pc = .ok (.tableswitch dflt lo hi offs, len)) (ht : (pc : Int) + dflt = (tgt : Int))
    (kin : lo ≤ x → x ≤ hi → ∃ (off : Int) (t : Nat), offs[(x - lo).toNat]? = some off ∧ (pc : Int) + off = (t : Int) ∧ Wa G Y Z c0 s0 n μ t L st) (kout : (x < lo ∨ hi < x) → Wa G Y Z c0 s0 n μ tgt L st) : Wa G Y Z c0 s0 n μ pc L (.inl x :: st) := by
  intro p e s m args below meth c H locs ls C hA hS hl oL oS
  have hx : inR x := okS_hd oS
  have e := I_toInt hx
  by_cases h : x < lo ∨ hi < x
  · exact lv_tableOut C.1 C.2.1 hd (by rw [e]; exact h) ht (kout h p _ s m args below meth c H locs ls C hA hS hl oL (okS_tl oS))
  · obtain ⟨off, t, h1, h2, w⟩ := kin (by omega) (by omega)
    exact lv_tableIn C.1 C.2.1 hd (by rw [e]; omega) (by rw [e]; omega) (by rw [e]; exact h1) h2 (w p _ s m args below meth c H locs ls C hA hS hl oL (okS_tl oS))
theorem a_dup {v : AV} (hd : decode Y.2.1 pc = .ok (.dup, 1)) (w : Wa G Y Z c0 s0 n μ (pc + 1) L (v :: v :: st)) : Wa G Y Z c0 s0 n μ pc L (v :: st) := by
  intro p e s m args below meth c H locs ls C hA hS hl oL oS
  exact lv_dup C.1 C.2.1 hd (cv_cat _ _) (w p e s m args below meth c H locs ls C hA hS hl oL (okS_cons (okS_hd oS) oS))
theorem a_dup2 {v u : AV} (hd : decode Y.2.1 pc = .ok (.dup2, 1)) (w : Wa G Y Z c0 s0 n μ (pc + 1) L (v :: u :: v :: u :: st)) : Wa G Y Z c0 s0 n μ pc L (v :: u :: st) := by
  intro p e s m args below meth c H locs ls C hA hS hl oL oS
  exact lv_dup2_11 C.1 C.2.1 hd (cv_cat _ _) (cv_cat _ _) (w p e s m args below meth c H locs ls C hA hS hl oL (okS_cons (okS_hd oS) (okS_cons (okS_hd (okS_tl oS)) oS)))
theorem a_ldcw {idx : Nat} {k : Int} (hd : decode Y.2.1 pc = .ok (.ldc_w idx, 3)) (hc : Cond.constant Y.1.cls idx (I k) ∈ gT) (hr : inR k) (w : Wa G Y Z c0 s0 n μ (pc + 3) L (.inl k :: st)) : Wa G Y Z c0 s0 n μ pc L st := by
  intro p e s m args below meth c H locs ls C hA hS hl oL oS
  obtain ⟨C1, C2, C3, C4, C5, C6, C7, C8, C9⟩ := C
  exact lv_ldcw C1 C2 C7 (C8 _ hc) hd (w p e s m args below meth c H locs ls ⟨C1, C2, C3, C4, C5, C6, C7, C8, C9⟩ hA hS hl oL (okS_cons hr oS))
/-- bits, as the ints have them -/
def iAnd (x y : Int) : Int := (I x &&& I y).toInt
def iOr (x y : Int) : Int := (I x ||| I y).toInt
def iXor (x y : Int) : Int := (I x ^^^ I y).toInt
def iShl (x y : Int) : Int := (I x <<< (I y &&& 31)).toInt
def iShr (x y : Int) : Int := (I x >>> (I y &&& 31)).toInt
def iUshr (x y : Int) : Int := ((I x).toUInt32 >>> ((I y).toUInt32 &&& Int32.toUInt32 31)).toInt32.toInt
theorem a_iand {x y : Int} (hd : decode Y.2.1 pc = .ok (.iand, 1)) (w : Wa G Y Z c0 s0 n μ (pc + 1) L (.inl (iAnd x y) :: st)) : Wa G Y Z c0 s0 n μ pc L (.inl y :: .inl x :: st) := by
  intro p e s m args below meth c H locs ls C hA hS hl oL oS
  have w := w p e s m args below meth c H locs ls C hA hS hl oL (okS_cons (I_inR _) (okS_tl (okS_tl oS)))
  refine lv_iand C.1 C.2.1 hd ?_
  rw [← I_of (I x &&& I y)]
  exact w
theorem a_ior {x y : Int} (hd : decode Y.2.1 pc = .ok (.ior, 1)) (w : Wa G Y Z c0 s0 n μ (pc + 1) L (.inl (iOr x y) :: st)) : Wa G Y Z c0 s0 n μ pc L (.inl y :: .inl x :: st) := by
  intro p e s m args below meth c H locs ls C hA hS hl oL oS
  have w := w p e s m args below meth c H locs ls C hA hS hl oL (okS_cons (I_inR _) (okS_tl (okS_tl oS)))
  refine lv_ior C.1 C.2.1 hd ?_
  rw [← I_of (I x ||| I y)]
  exact w
theorem a_ixor {x y : Int} (hd : decode Y.2.1 pc = .ok (.ixor, 1)) (w : Wa G Y Z c0 s0 n μ (pc + 1) L (.inl (iXor x y) :: st)) : Wa G Y Z c0 s0 n μ pc L (.inl y :: .inl x :: st) := by
  intro p e s m args below meth c H locs ls C hA hS hl oL oS
  have w := w p e s m args below meth c H locs ls C hA hS hl oL (okS_cons (I_inR _) (okS_tl (okS_tl oS)))
  refine lv_ixor C.1 C.2.1 hd ?_
  rw [← I_of (I x ^^^ I y)]
  exact w
theorem a_ishl {x y : Int} (hd : decode Y.2.1 pc = .ok (.ishl, 1)) (w : Wa G Y Z c0 s0 n μ (pc + 1) L (.inl (iShl x y) :: st)) : Wa G Y Z c0 s0 n μ pc L (.inl y :: .inl x :: st) := by
  intro p e s m args below meth c H locs ls C hA hS hl oL oS
  have w := w p e s m args below meth c H locs ls C hA hS hl oL (okS_cons (I_inR _) (okS_tl (okS_tl oS)))
  refine lv_ishl C.1 C.2.1 hd ?_
  rw [← I_of (I x <<< (I y &&& 31))]
  exact w
theorem a_ishr {x y : Int} (hd : decode Y.2.1 pc = .ok (.ishr, 1)) (w : Wa G Y Z c0 s0 n μ (pc + 1) L (.inl (iShr x y) :: st)) : Wa G Y Z c0 s0 n μ pc L (.inl y :: .inl x :: st) := by
  intro p e s m args below meth c H locs ls C hA hS hl oL oS
  have w := w p e s m args below meth c H locs ls C hA hS hl oL (okS_cons (I_inR _) (okS_tl (okS_tl oS)))
  refine lv_ishr C.1 C.2.1 hd ?_
  rw [← I_of (I x >>> (I y &&& 31))]
  exact w
theorem a_iushr {x y : Int} (hd : decode Y.2.1 pc = .ok (.iushr, 1)) (w : Wa G Y Z c0 s0 n μ (pc + 1) L (.inl (iUshr x y) :: st)) : Wa G Y Z c0 s0 n μ pc L (.inl y :: .inl x :: st) := by
  intro p e s m args below meth c H locs ls C hA hS hl oL oS
  have w := w p e s m args below meth c H locs ls C hA hS hl oL (okS_cons (I_inR _) (okS_tl (okS_tl oS)))
  exact lv_iushr C.1 C.2.1 hd (I_of _).symm w
/-- division, of what is not negative by what is positive -/
theorem I_div {x y : Int} (hx : inR x) (hy : inR y) (h0 : 0 ≤ x) (h1 : 0 < y) : I x / I y = I (x / y) := by
  have hq : 0 ≤ x / y := Int.ediv_nonneg h0 (by omega)
  have hq2 : x / y ≤ x := Int.ediv_le_self y h0
  apply Int32.toInt_inj.mp
  rw [Int32.toInt_div_of_ne_right, I_toInt hx, I_toInt hy, I_toInt ⟨by omega, by omega⟩, Int.tdiv_eq_ediv_of_nonneg h0]
  intro h
  have := congrArg Int32.toInt h
  rw [I_toInt hy] at this
  have e : (-1 : Int32).toInt = -1 := by decide
  rw [e] at this
  omega
theorem a_idiv {x y : Int} (hd : decode Y.2.1 pc = .ok (.idiv, 1)) (h0 : 0 ≤ x) (h1 : 0 < y) (w : Wa G Y Z c0 s0 n μ (pc + 1) L (.inl (x / y) :: st)) : Wa G Y Z c0 s0 n μ pc L (.inl y :: .inl x :: st) := by
  intro p e s m args below meth c H locs ls C hA hS hl oL oS
  have hy : inR y := okS_hd oS
  have hx : inR x := okS_hd (okS_tl oS)
  have hq : 0 ≤ x / y := Int.ediv_nonneg h0 (by omega)
  have hq2 : x / y ≤ x := Int.ediv_le_self y h0
  have w := w p e s m args below meth c H locs ls C hA hS hl oL (okS_cons ⟨by omega, by omega⟩ (okS_tl (okS_tl oS)))
  refine lv_idiv C.1 C.2.1 hd (fun h => ?_) ?_
  · have := (I_eq hy zero_in).mp h
    omega
  · rw [I_div hx hy h0 h1]
    exact w
theorem a_irem {x y : Int} (hd : decode Y.2.1 pc = .ok (.irem, 1)) (h0 : 0 ≤ x) (h1 : 0 < y) (w : Wa G Y Z c0 s0 n μ (pc + 1) L (.inl (x % y) :: st)) : Wa G Y Z c0 s0 n μ pc L (.inl y :: .inl x :: st) := by
  intro p e s m args below meth c H locs ls C hA hS hl oL oS
  have hy : inR y := okS_hd oS
  have hx : inR x := okS_hd (okS_tl oS)
  have hq : 0 ≤ x % y := Int.emod_nonneg x (by omega)
  have hq2 : x % y < y := Int.emod_lt_of_pos x h1
  have w := w p e s m args below meth c H locs ls C hA hS hl oL (okS_cons ⟨by omega, by omega⟩ (okS_tl (okS_tl oS)))
  refine lv_irem C.1 C.2.1 hd (fun h => ?_) ?_
  · have := (I_eq hy zero_in).mp h
    omega
  · rw [I_div hx hy h0 h1, ← I_mul, ← I_sub, show x - x / y * y = x % y by rw [Int.emod_def, Int.mul_comm]]
    exact w
/-- what the memory is known to keep, for use on the way -/
theorem a_fx (w : gx G n μ → Wa G Y Z c0 s0 n μ pc L st) : Wa G Y Z c0 s0 n μ pc L st := by
  intro p e s m args below meth c H locs ls C hA hS hl oL oS
  exact w hA.2.2.2 p e s m args below meth c H locs ls C hA hS hl oL oS
theorem a_wide {c1 s1 : Nat} (hc : c0 ≤ c1) (hs : s0 ≤ s1) (w : Wa G Y Z c1 s1 n μ pc L st) : Wa G Y Z c0 s0 n μ pc L st := by
  intro p e s m args below meth c H locs ls C hA hS hl oL oS
  exact W.widen hc hs (w p e s m args below meth c H locs ls C hA hS hl oL oS)
end RowsB
end
section
-- rows of the judgement Wa over the memory: fields, arrays, what is made
def up (μ : Mem) (a k v : Int) : Mem := fun x => if x = a then (fun j => if j = k then v else μ a j) else μ x
theorem up_ne {μ : Mem} {a k v x : Int} (h : x ≠ a) : up μ a k v x = μ x := if_neg h
theorem up_at (μ : Mem) (a k v : Int) : up μ a k v a = fun j => if j = k then v else μ a j := if_pos rfl
theorem up_self (μ : Mem) (a k v : Int) : up μ a k v a k = v := by rw [up_at]; exact if_pos rfl
theorem up_oth {μ : Mem} {a k v j : Int} (h : j ≠ k) : up μ a k v a j = μ a j := by rw [up_at]; exact if_neg h
/-- a class by its number: its name, fields and types -/
def ClF (ci : Nat) (C : String) (T : u_T) (N : Nat) : Prop :=
  ci < 12 ∧ vwCl[ci]? = some (C, T, N) ∧ (∀ k, k < N → parseFieldDescriptor (T k).2.2.1 = some (tyC ci k)) ∧ (∀ a, a < N → ∀ b, b < N → a ≠ b → (T a).2.1 ≠ (T b).2.1) ∧ ∀ w ∈ u_ws C T N, w ∈ gT
theorem ent_obj {cA : Nat → ClassId} {b0 i ci N : Nat} {μ : Mem} (h : SH (i : Int) = (ci, N)) (hc : ci < 12) : ent cA b0 μ i = .inr (ci, (List.range N).map (fun j => cv b0 (av (tyC ci j) (μ i j)))) := by
  unfold ent
  rw [h]
  rw [if_pos hc]
theorem ent_num {cA : Nat → ClassId} {b0 i k N : Nat} {μ : Mem} (h : SH (i : Int) = (k, N)) (h1 : 12 ≤ k) (h2 : k < 22) : ent cA b0 μ i = .inl (cA k, N, .inl (fun j => I (μ i j))) := by
  unfold ent
  rw [h]
  rw [if_neg (by simpa using h1), if_pos h2]
theorem ent_ref {cA : Nat → ClassId} {b0 i k N : Nat} {μ : Mem} (h : SH (i : Int) = (k, N)) (h2 : 22 ≤ k) : ent cA b0 μ i = .inl (cA k, N, .inr (.inr (.inr (.inr (fun j => if μ i j < 0 then none else some (b0 + (μ i j).toNat)))))) := by
  unfold ent
  rw [h]
  rw [if_neg (by show ¬ k < 12; omega), if_neg (by simpa using h2)]
theorem ent_up_ne {cA : Nat → ClassId} {b0 i j : Nat} {μ : Mem} {k v : Int} (h : j ≠ i) : ent cA b0 (up μ i k v) j = ent cA b0 μ j := by
  unfold ent
  rw [up_ne (by omega)]
theorem range_map_set {α : Type} (N k : Nat) (f : Nat → α) (v : α) : ((List.range N).map f).set k v = (List.range N).map (fun j => if j = k then v else f j) := by
  apply List.ext_getElem?
  intro j
  by_cases hj : j < N
  · by_cases hk : k = j
    · subst hk
      rw [List.getElem?_set_self (by simpa using hj)]
      simp [hj]
    · rw [List.getElem?_set_ne hk]
      simp [hj, Ne.symm hk]
  · rw [List.getElem?_eq_none (by simpa using Nat.le_of_not_lt hj), List.getElem?_eq_none (by simpa using Nat.le_of_not_lt hj)]
theorem ent_up_obj {cA : Nat → ClassId} {b0 i ci N k : Nat} {μ : Mem} {v : Int} (h : SH (i : Int) = (ci, N)) (hc : ci < 12) :
    ent cA b0 (up μ i k v) i = .inr (ci, ((List.range N).map (fun j => cv b0 (av (tyC ci j) (μ i j)))).set k (cv b0 (av (tyC ci k) v))) := by
  rw [ent_obj h hc, range_map_set]
  congr 2
  apply List.map_congr_left
  intro j _
  by_cases hj : j = k
  · subst hj
    rw [up_self, if_pos rfl]
  · rw [up_oth (by omega), if_neg hj]
theorem ent_up_num {cA : Nat → ClassId} {b0 i k N j : Nat} {μ : Mem} {v : Int} (h : SH (i : Int) = (k, N)) (h1 : 12 ≤ k) (h2 : k < 22) :
    ent cA b0 (up μ i j v) i = .inl (cA k, N, .inl (upd (fun j => I (μ i j)) j (I v))) := by
  rw [ent_num h h1 h2]
  congr 4
  funext q
  unfold upd
  by_cases hq : q = j
  · subst hq
    rw [up_self, if_pos rfl]
  · rw [up_oth (by omega), if_neg hq]
theorem ent_up_ref {cA : Nat → ClassId} {b0 i k N j : Nat} {μ : Mem} {v : Int} (h : SH (i : Int) = (k, N)) (h2 : 22 ≤ k) :
    ent cA b0 (up μ i j v) i = .inl (cA k, N, .inr (.inr (.inr (.inr (va_up (fun j => if μ i j < 0 then none else some (b0 + (μ i j).toNat)) j (if v < 0 then none else some (b0 + v.toNat))))))) := by
  rw [ent_ref h h2]
  congr 7
  funext q
  unfold va_up
  by_cases hq : q = j
  · subst hq
    rw [up_self, if_pos rfl]
  · rw [up_oth (by omega), if_neg hq]
/-- one cell has changed -/
theorem AH_up {G : GT} {n i k : Nat} {μ : Mem} {v : Int} {H H1 : Heap} (hA : AH G n μ H) (hi : i < n) (hat : va_at (gD G) vwCl (gb G + i, ent (gA G) (gb G) (up μ i k v) i) H1) (hz : H1.size = H.size) (oq : ∀ q : Nat, q ≠ gb G + i → H1[q]? = H[q]?)
    (hv : k < (SH (i : Int)).2 → okT (ety (SH (i : Int)).1 k) v) (hx : gx G n (up μ i k v)) : AH G n (up μ i k v) H1 := by
  obtain ⟨h1, h2, h3, h4⟩ := hA
  refine ⟨?_, by rw [hz]; exact h2, ?_, hx⟩
  · have := va_P.set h1 (world_D _ _ _ _) (world_at hi) hat oq
    rwa [world_set rfl (fun j hj => ent_up_ne hj)] at this
  · intro i' j hi' hj
    by_cases e : i' = i
    · subst e
      by_cases ej : j = k
      · subst ej
        rw [up_self]
        exact hv hj
      · rw [up_oth (by omega)]
        exact h3 i' j hi' hj
    · rw [up_ne (by omega)]
      exact h3 i' j hi' hj
section RowsC
variable {G : GT} {Y : MD} {Z : ZT} {c0 s0 n pc : Nat} {μ : Mem} {L : List (Nat × AV)} {st : List AV}
theorem a_toNat {a : Int} (h : 0 ≤ a) : ((a.toNat : Nat) : Int) = a := by omega
theorem a_getf {ci k N idx : Nat} {C : String} {T : u_T} {a : Int} (F : ClF ci C T N) (hd : decode Y.2.1 pc = .ok (.getfield idx, 3)) (hk : k < N) (hT : (T k).1 = C) (hl : Cond.fieldLink Y.1.cls idx C (T k).2.1 (T k).2.2.1 ∈ gT)
    (ho : gx G n μ → 0 ≤ a ∧ a < n ∧ SH a = (ci, N)) (w : okT (tyC ci k) (μ a k) → Wa G Y Z c0 s0 n μ (pc + 3) L (av (tyC ci k) (μ a k) :: st)) : Wa G Y Z c0 s0 n μ pc L (.inr a :: st) := by
  intro p e s m args below meth c H locs ls C0 hA hS hl' oL oS
  obtain ⟨h0, h1, h2⟩ := ho hA.2.2.2
  have en := a_toNat h0
  have hi : a.toNat < n := by omega
  have hsh : SH (a.toNat : Int) = (ci, N) := by rw [en]; exact h2
  have hok := hA.2.2.1 a.toNat k hi (by rw [hsh]; exact hk)
  rw [hsh, en] at hok
  have hok' : okT (tyC ci k) (μ a k) := by
    have : ety ci k = tyC ci k := if_pos F.1
    rw [this] at hok
    exact hok
  have w := w hok' p e s m args below meth c H locs ls C0 hA hS hl' oL (okS_cons (okT_av hok') (okS_tl oS))
  obtain ⟨C1, C2, C3, C4, C5, C6, C7, C8, C9⟩ := C0
  have he := world_at (cA := gA G) (b0 := gb G) (μ := μ) hi
  rw [ent_obj hsh F.1] at he
  rw [List.map_cons, cv_ref h0]
  refine va_get C1 C2 C8 F.2.2.2.2 C7 C9.1.1 hA.1 a.toNat he F.2.1 k hk (C8 _ hl) (fun x hx => by rw [hT] at hx; exact hx) (v := cv (gb G) (av (tyC ci k) (μ a k))) ?_ hd w
  rw [List.getElem?_map, List.getElem?_range hk]
  simp only [Option.map_some]
  rw [en]
theorem a_getfN {ci k N idx : Nat} {C host : String} {T : u_T} {a : Int} (F : ClF ci C T N) (hd : decode Y.2.1 pc = .ok (.getfield idx, 3)) (hk : k < N) (hT : (T k).1 = C) (hl : Cond.fieldLinkNest Y.1.cls idx C (T k).2.1 (T k).2.2.1 host ∈ gN)
    (ho : gx G n μ → 0 ≤ a ∧ a < n ∧ SH a = (ci, N)) (w : okT (tyC ci k) (μ a k) → Wa G Y Z c0 s0 n μ (pc + 3) L (av (tyC ci k) (μ a k) :: st)) : Wa G Y Z c0 s0 n μ pc L (.inr a :: st) := by
  intro p e s m args below meth c H locs ls C0 hA hS hl' oL oS
  obtain ⟨h0, h1, h2⟩ := ho hA.2.2.2
  have en := a_toNat h0
  have hi : a.toNat < n := by omega
  have hsh : SH (a.toNat : Int) = (ci, N) := by rw [en]; exact h2
  have hok := hA.2.2.1 a.toNat k hi (by rw [hsh]; exact hk)
  rw [hsh, en] at hok
  have hok' : okT (tyC ci k) (μ a k) := by
    have : ety ci k = tyC ci k := if_pos F.1
    rw [this] at hok
    exact hok
  have w := w hok' p e s m args below meth c H locs ls C0 hA hS hl' oL (okS_cons (okT_av hok') (okS_tl oS))
  obtain ⟨C1, C2, C3, C4, C5, C6, C7, C8, C9⟩ := C0
  have he := world_at (cA := gA G) (b0 := gb G) (μ := μ) hi
  rw [ent_obj hsh F.1] at he
  rw [List.map_cons, cv_ref h0]
  refine va_getN C1 C2 C8 F.2.2.2.2 C7 C9.1.1 hA.1 a.toNat he F.2.1 k hk (va_Nw.use rfl (C9.1.2.1 _ hl)) (fun x hx => by rw [hT] at hx; exact hx) (v := cv (gb G) (av (tyC ci k) (μ a k))) ?_ hd w
  rw [List.getElem?_map, List.getElem?_range hk]
  simp only [Option.map_some]
  rw [en]
theorem av_narrow {t : FieldType} {v : Int} {b0 : Nat} (hs : t ≠ .byte ∧ t ≠ .char ∧ t ≠ .short ∧ t ≠ .long ∧ t ≠ .float ∧ t ≠ .double) (h : okT t v) : narrow t (cv b0 (av t v)) = cv b0 (av t v) ∧ fits t (cv b0 (av t v)) = true := by
  obtain ⟨h1, h2, h3, h4, h5, h6⟩ := hs
  cases t with
  | int => exact ⟨rfl, rfl⟩
  | boolean => rcases h with rfl | rfl <;> exact ⟨rfl, rfl⟩
  | object _ =>
    show narrow _ (cv b0 (.inr v)) = cv b0 (.inr v) ∧ fits _ (cv b0 (.inr v)) = true
    by_cases hv : v < 0
    · rw [cv_null hv]; exact ⟨rfl, rfl⟩
    · rw [cv_ref (by omega)]; exact ⟨rfl, rfl⟩
  | array _ =>
    show narrow _ (cv b0 (.inr v)) = cv b0 (.inr v) ∧ fits _ (cv b0 (.inr v)) = true
    by_cases hv : v < 0
    · rw [cv_null hv]; exact ⟨rfl, rfl⟩
    · rw [cv_ref (by omega)]; exact ⟨rfl, rfl⟩
  | byte => exact absurd rfl h1
  | char => exact absurd rfl h2
  | short => exact absurd rfl h3
  | long => exact absurd rfl h4
  | float => exact absurd rfl h5
  | double => exact absurd rfl h6
def smallT (t : FieldType) : Prop := t ≠ .byte ∧ t ≠ .char ∧ t ≠ .short ∧ t ≠ .long ∧ t ≠ .float ∧ t ≠ .double
/-- the cell of an object behind a store -/
theorem obj_set {D : va_G} {cA : Nat → ClassId} {b0 i ci N k : Nat} {C : String} {T : u_T} {μ : Mem} {v : Int} {H1 : Heap} {cell : Cell} (hc : vwCl[ci]? = some (C, T, N)) (hci : ci < 12) (hsh : SH (i : Int) = (ci, N)) (hk : k < N)
    (e1 : H1[b0 + i]? = some (cell.setSlot (D.2 ci k) (cv b0 (av (tyC ci k) v)))) (q2 : cell.cls = D.1 ci) (q3 : cell.vm = .none)
    (q4 : ∀ j, j < N → cell.slots[D.2 ci j]? = some (vp_V ((List.range N).map (fun j => cv b0 (av (tyC ci j) (μ i j)))) j)) (hap : ∀ x y, x < N → y < N → x ≠ y → D.2 ci x ≠ D.2 ci y) : va_at D vwCl (b0 + i, ent cA b0 (up μ i k v) i) H1 := by
  rw [ent_up_obj hsh hci]
  refine ⟨_, hc, t_OB.to (V := updV (vp_V ((List.range N).map (fun j => cv b0 (av (tyC ci j) (μ i j))))) k (cv b0 (av (tyC ci k) v))) ⟨_, e1, q2, q3, t_set q4 hap hk _⟩ (fun j _ => vp_updV_set (by simpa using hk) _ j)⟩
theorem a_putf {ci k N idx : Nat} {C : String} {T : u_T} {a : Int} {v : Int} (F : ClF ci C T N) (hd : decode Y.2.1 pc = .ok (.putfield idx, 3)) (hk : k < N) (hT : (T k).1 = C) (hfin : (T k).2.2.2 = false) (hty : smallT (tyC ci k)) (hl : Cond.fieldLink Y.1.cls idx C (T k).2.1 (T k).2.2.1 ∈ gT)
    (ho : gx G n μ → 0 ≤ a ∧ a < n ∧ SH a = (ci, N)) (hv : okV (av (tyC ci k) v) → okT (tyC ci k) v) (hx : gx G n μ → gx G n (up μ a k v)) (w : Wa G Y Z c0 s0 n (up μ a k v) (pc + 3) L st) : Wa G Y Z c0 s0 n μ pc L (av (tyC ci k) v :: .inr a :: st) := by
  intro p e s m args below meth c H locs ls C0 hA hS hl' oL oS
  obtain ⟨h0, h1, h2⟩ := ho hA.2.2.2
  have hv := hv (okS_hd oS)
  have en := a_toNat h0
  have hi : a.toNat < n := by omega
  have hsh : SH (a.toNat : Int) = (ci, N) := by rw [en]; exact h2
  obtain ⟨C1, C2, C3, C4, C5, C6, C7, C8, C9⟩ := id C0
  have he := world_at (cA := gA G) (b0 := gb G) (μ := μ) hi
  rw [ent_obj hsh F.1] at he
  have hap := va_apart (own := Y.1.cls) C8 F.2.2.2.2 (tyC ci) F.2.2.1 F.2.2.2.1 C9.1.1 F.2.1
  obtain ⟨r, g1, cell, q1, q2, q3, q4⟩ := hA.1 a.toNat _ he
  have hr : r = (C, T, N) := Option.some.inj (g1.symm.trans F.2.1)
  subst hr
  obtain ⟨hSl, hfc, kC, hkC, hkind⟩ := C9.1.1.1 ci _ F.2.1
  obtain ⟨cf, kf, fi, f, hif, hsl⟩ := hSl k hk
  have hlay := C8 _ (F.2.2.2.2 _ (u_in_lay hk))
  unfold u_lay at hlay
  rw [if_neg (by rw [hfin]; decide)] at hlay
  have hst := (u_facts hfc hkC (u_lays C8 F.2.2.2.2 hk) hif).1
  have hn := av_narrow (b0 := gb G) hty hv
  have h6 := u_store hfc hkC hkind hlay hif (F.2.2.1 k hk) hn.1 hn.2
  have hif' : s.fieldFound? C (T k).2.1 (T k).2.2.1 = some (cf, kf, fi, f) := by rw [← hT]; exact hif
  have hlk := C8 _ hl
  rw [List.map_cons, List.map_cons, cv_ref h0]
  refine W.putK C1 C2 (f := f) (ref := C) ⟨C7, hlk, ⟨_, _, _, hif'⟩, hst⟩ (by rw [q2]; exact h6) q1 q3 (by rw [hsl]; exact k2_hasslot (q4 k hk)) rfl rfl hd fun H' e1 e2 e3 => ?_
  have hA' : AH G n (up μ a k v) H' := by
    rw [← en]
    refine AH_up hA hi (obj_set F.2.1 F.1 hsh hk (cell := cell) (by rw [← hsl]; exact e1) q2 q3 q4 hap) e2 e3 (fun _ => ?_) (by rw [en]; exact hx hA.2.2.2)
    have : ety ci k = tyC ci k := if_pos F.1
    rw [hsh, this]
    exact hv
  exact w p e s m args below meth c H' _ ls C0 hA' (hS.put e2 e3 (Nat.le_add_right _ _)) hl' oL (okS_tl (okS_tl oS))
theorem a_putfN {ci k N idx : Nat} {C host : String} {T : u_T} {a : Int} {v : Int} (F : ClF ci C T N) (hd : decode Y.2.1 pc = .ok (.putfield idx, 3)) (hk : k < N) (hT : (T k).1 = C) (hfin : (T k).2.2.2 = false) (hty : smallT (tyC ci k)) (hl : Cond.fieldLinkNest Y.1.cls idx C (T k).2.1 (T k).2.2.1 host ∈ gN)
    (ho : gx G n μ → 0 ≤ a ∧ a < n ∧ SH a = (ci, N)) (hv : okV (av (tyC ci k) v) → okT (tyC ci k) v) (hx : gx G n μ → gx G n (up μ a k v)) (w : Wa G Y Z c0 s0 n (up μ a k v) (pc + 3) L st) : Wa G Y Z c0 s0 n μ pc L (av (tyC ci k) v :: .inr a :: st) := by
  intro p e s m args below meth c H locs ls C0 hA hS hl' oL oS
  obtain ⟨h0, h1, h2⟩ := ho hA.2.2.2
  have hv := hv (okS_hd oS)
  have en := a_toNat h0
  have hi : a.toNat < n := by omega
  have hsh : SH (a.toNat : Int) = (ci, N) := by rw [en]; exact h2
  obtain ⟨C1, C2, C3, C4, C5, C6, C7, C8, C9⟩ := id C0
  have he := world_at (cA := gA G) (b0 := gb G) (μ := μ) hi
  rw [ent_obj hsh F.1] at he
  have hap := va_apart (own := Y.1.cls) C8 F.2.2.2.2 (tyC ci) F.2.2.1 F.2.2.2.1 C9.1.1 F.2.1
  obtain ⟨r, g1, cell, q1, q2, q3, q4⟩ := hA.1 a.toNat _ he
  have hr : r = (C, T, N) := Option.some.inj (g1.symm.trans F.2.1)
  subst hr
  obtain ⟨hSl, hfc, kC, hkC, hkind⟩ := C9.1.1.1 ci _ F.2.1
  obtain ⟨cf, kf, fi, f, hif, hsl⟩ := hSl k hk
  have hlay := C8 _ (F.2.2.2.2 _ (u_in_lay hk))
  unfold u_lay at hlay
  rw [if_neg (by rw [hfin]; decide)] at hlay
  have hst := (u_facts hfc hkC (u_lays C8 F.2.2.2.2 hk) hif).1
  have hn := av_narrow (b0 := gb G) hty hv
  have h6 := u_store hfc hkC hkind hlay hif (F.2.2.1 k hk) hn.1 hn.2
  have hif' : s.fieldFound? C (T k).2.1 (T k).2.2.1 = some (cf, kf, fi, f) := by rw [← hT]; exact hif
  have hlk : (Cond.fieldLinkNest Y.1.cls idx C (T k).2.1 (T k).2.2.1 host).before args s = true := va_Nw.use rfl (C9.1.2.1 _ hl)
  rw [List.map_cons, List.map_cons, cv_ref h0]
  refine va_WputK C1 C2 (f := f) (ref := C) C7 hlk hif' hst (by rw [q2]; exact h6) q1 q3 (by rw [hsl]; exact k2_hasslot (q4 k hk)) rfl rfl hd fun H' e1 e2 e3 => ?_
  have hA' : AH G n (up μ a k v) H' := by
    rw [← en]
    refine AH_up hA hi (obj_set F.2.1 F.1 hsh hk (cell := cell) (by rw [← hsl]; exact e1) q2 q3 q4 hap) e2 e3 (fun _ => ?_) (by rw [en]; exact hx hA.2.2.2)
    have : ety ci k = tyC ci k := if_pos F.1
    rw [hsh, this]
    exact hv
  exact w p e s m args below meth c H' _ ls C0 hA' (hS.put e2 e3 (Nat.le_add_right _ _)) hl' oL (okS_tl (okS_tl oS))
/-- a final field, in the constructor -/
theorem a_putF {ci k N idx : Nat} {C : String} {T : u_T} {a : Int} {v : Int} (F : ClF ci C T N) (hd : decode Y.2.1 pc = .ok (.putfield idx, 3)) (hk : k < N) (hT : (T k).1 = C) (hC : C = Y.1.cls) (hini : Y.1.name = "<init>") (hfin : (T k).2.2.2 = true) (hty : smallT (tyC ci k)) (hl : Cond.fieldLink Y.1.cls idx C (T k).2.1 (T k).2.2.1 ∈ gT)
    (ho : gx G n μ → 0 ≤ a ∧ a < n ∧ SH a = (ci, N)) (hv : okV (av (tyC ci k) v) → okT (tyC ci k) v) (hx : gx G n μ → gx G n (up μ a k v)) (w : Wa G Y Z c0 s0 n (up μ a k v) (pc + 3) L st) : Wa G Y Z c0 s0 n μ pc L (av (tyC ci k) v :: .inr a :: st) := by
  intro p e s m args below meth c H locs ls C0 hA hS hl' oL oS
  obtain ⟨h0, h1, h2⟩ := ho hA.2.2.2
  have hv := hv (okS_hd oS)
  have en := a_toNat h0
  have hi : a.toNat < n := by omega
  have hsh : SH (a.toNat : Int) = (ci, N) := by rw [en]; exact h2
  obtain ⟨C1, C2, C3, C4, C5, C6, C7, C8, C9⟩ := id C0
  have he := world_at (cA := gA G) (b0 := gb G) (μ := μ) hi
  rw [ent_obj hsh F.1] at he
  have hap := va_apart (own := Y.1.cls) C8 F.2.2.2.2 (tyC ci) F.2.2.1 F.2.2.2.1 C9.1.1 F.2.1
  obtain ⟨r, g1, cell, q1, q2, q3, q4⟩ := hA.1 a.toNat _ he
  have hr : r = (C, T, N) := Option.some.inj (g1.symm.trans F.2.1)
  subst hr
  obtain ⟨hSl, hfc, kC, hkC, hkind⟩ := C9.1.1.1 ci _ F.2.1
  obtain ⟨cf, kf, fi, f, hif, hsl⟩ := hSl k hk
  have hlay := C8 _ (F.2.2.2.2 _ (u_in_lay hk))
  unfold u_lay at hlay
  rw [if_pos hfin] at hlay
  have hst := (u_facts hfc hkC (u_lays C8 F.2.2.2.2 hk) hif).1
  have hcf : m.cls = cf := by
    obtain ⟨_, _, c', _, _, _, -, -, hf', -, -, -, hown2, -⟩ := Cond.laysFinal_spec hlay
    have e1 : c' = cf := by have := hif.symm.trans hf'; simp at this; exact this.1.symm
    rw [hT, hC] at hown2
    rw [← e1]; exact Option.some.inj (C7.symm.trans hown2)
  have hn := av_narrow (b0 := gb G) hty hv
  have h6 := u_fits hfc hkC hkind (Or.inr hlay) hif (F.2.2.1 k hk) hn.1 hn.2
  have hif' : s.fieldFound? C (T k).2.1 (T k).2.2.1 = some (cf, kf, fi, f) := by rw [← hT]; exact hif
  have hlk := C8 _ hl
  rw [List.map_cons, List.map_cons, cv_ref h0]
  refine W.putFinK C1 C2 (ref := C) C7 hlk hif' hst hcf (C6 hini) (by rw [q2]; exact h6) q1 q3 (by rw [hsl]; exact k2_hasslot (q4 k hk)) rfl rfl hd fun H' e1 e2 e3 => ?_
  have hA' : AH G n (up μ a k v) H' := by
    rw [← en]
    refine AH_up hA hi (obj_set F.2.1 F.1 hsh hk (cell := cell) (by rw [← hsl]; exact e1) q2 q3 q4 hap) e2 e3 (fun _ => ?_) (by rw [en]; exact hx hA.2.2.2)
    have : ety ci k = tyC ci k := if_pos F.1
    rw [hsh, this]
    exact hv
  exact w p e s m args below meth c H' _ ls C0 hA' (hS.put e2 e3 (Nat.le_add_right _ _)) hl' oL (okS_tl (okS_tl oS))
end RowsC
end
section
-- rows of the judgement Wa: arrays, making, the library's own, ends, entries
/-- a new cell at the end -/
def nw (μ : Mem) (a : Int) (d : Int → Int) : Mem := fun x => if x = a then d else μ x
theorem nw_ne {μ : Mem} {a x : Int} {d : Int → Int} (h : x ≠ a) : nw μ a d x = μ x := if_neg h
theorem nw_at (μ : Mem) (a : Int) (d : Int → Int) : nw μ a d a = d := if_pos rfl
theorem ent_nw_ne {cA : Nat → ClassId} {b0 i j : Nat} {μ : Mem} {d : Int → Int} (h : j ≠ i) : ent cA b0 (nw μ i d) j = ent cA b0 μ j := by
  unfold ent
  rw [nw_ne (by omega)]
theorem world_nw {cA : Nat → ClassId} {b0 n : Nat} {μ : Mem} {d : Int → Int} : world cA b0 (n + 1) (nw μ n d) = world cA b0 n μ ++ [(b0 + n, ent cA b0 (nw μ n d) n)] := by
  unfold world
  rw [List.range_succ, List.map_append]
  congr 1
  apply List.map_congr_left
  intro j hj
  have hj := List.mem_range.mp hj
  rw [ent_nw_ne (by omega)]
theorem AH_nw {G : GT} {n : Nat} {μ : Mem} {d : Int → Int} {H H1 : Heap} (hA : AH G n μ H) (hat : va_at (gD G) vwCl (gb G + n, ent (gA G) (gb G) (nw μ n d) n) H1) (hz : H1.size = H.size + 1) (oq : ∀ q : Nat, q < H.size → H1[q]? = H[q]?)
    (hv : ∀ j : Nat, j < (SH (n : Int)).2 → okT (ety (SH (n : Int)).1 j) (d j)) (hx : gx G (n + 1) (nw μ n d)) : AH G (n + 1) (nw μ n d) H1 := by
  obtain ⟨h1, h2, h3, h4⟩ := hA
  refine ⟨?_, by rw [hz, h2]; omega, ?_, hx⟩
  · rw [world_nw]
    refine (h1.kept (fun k q hq => oq q.1 ((h1 k q hq).lt))).app (fun k q hk => ?_)
    have hz : k < 1 := (List.getElem?_eq_some_iff.mp hk).1
    rw [show k = 0 by omega] at hk
    cases hk
    exact hat
  · intro i j hi hj
    by_cases e : i = n
    · subst e
      rw [nw_at]
      exact hv j hj
    · rw [nw_ne (by omega)]
      exact h3 i j (by omega) hj
def zeroD : Int → Int := fun _ => 0
def nullD : Int → Int := fun _ => -1
def objD (ci : Nat) : Int → Int := fun j => if isRefT (tyC ci j.toNat) = true then -1 else 0
section RowsD
variable {G : GT} {Y : MD} {Z : ZT} {c0 s0 n pc : Nat} {μ : Mem} {L : List (Nat × AV)} {st : List AV}
theorem a_iaload {N : Nat} {a i : Int} (hd : decode Y.2.1 pc = .ok (.iaload, 1)) (ho : gx G n μ → 0 ≤ a ∧ a < n ∧ SH a = (20, N)) (i0 : 0 ≤ i) (i1 : i < N) (w : Wa G Y Z c0 s0 n μ (pc + 1) L (.inl (μ a i) :: st)) : Wa G Y Z c0 s0 n μ pc L (.inl i :: .inr a :: st) := by
  intro p e s m args below meth c H locs ls C0 hA hS hl oL oS
  obtain ⟨h0, h1, h2⟩ := ho hA.2.2.2
  have en := a_toNat h0
  have ei := a_toNat i0
  have hi : a.toNat < n := by omega
  have hsh : SH (a.toNat : Int) = (20, N) := by rw [en]; exact h2
  have hri : inR i := okS_hd oS
  have hok := hA.2.2.1 a.toNat i.toNat hi (by rw [hsh]; show i.toNat < N; omega)
  rw [hsh, en, ei] at hok
  have w := w p e s m args below meth c H locs ls C0 hA hS hl oL (okS_cons hok (okS_tl (okS_tl oS)))
  have he := world_at (cA := gA G) (b0 := gb G) (μ := μ) hi
  rw [ent_num hsh (by decide) (by decide)] at he
  rw [List.map_cons, List.map_cons, cv_ref h0]
  refine va_iald C0.1 C0.2.1 C0.2.2.2.2.2.2.2.2.1.1 hA.1 a.toNat 0 he rfl (I_in hri i0 i1) hd ?_
  rw [I_clamp hri, en, ei]
  exact w
theorem a_zaload {N : Nat} {a i : Int} (hd : decode Y.2.1 pc = .ok (.baload, 1)) (ho : gx G n μ → 0 ≤ a ∧ a < n ∧ SH a = (21, N)) (i0 : 0 ≤ i) (i1 : i < N) (w : (μ a i = 0 ∨ μ a i = 1) → Wa G Y Z c0 s0 n μ (pc + 1) L (.inl (μ a i) :: st)) : Wa G Y Z c0 s0 n μ pc L (.inl i :: .inr a :: st) := by
  intro p e s m args below meth c H locs ls C0 hA hS hl oL oS
  obtain ⟨h0, h1, h2⟩ := ho hA.2.2.2
  have en := a_toNat h0
  have ei := a_toNat i0
  have hi : a.toNat < n := by omega
  have hsh : SH (a.toNat : Int) = (21, N) := by rw [en]; exact h2
  have hri : inR i := okS_hd oS
  have hok := hA.2.2.1 a.toNat i.toNat hi (by rw [hsh]; show i.toNat < N; omega)
  rw [hsh, en, ei] at hok
  have hok : μ a i = 0 ∨ μ a i = 1 := hok
  have w := w hok p e s m args below meth c H locs ls C0 hA hS hl oL (okS_cons (by show inR _; rcases hok with h | h <;> rw [h] <;> exact ⟨by decide, by decide⟩) (okS_tl (okS_tl oS)))
  have he := world_at (cA := gA G) (b0 := gb G) (μ := μ) hi
  rw [ent_num hsh (by decide) (by decide)] at he
  rw [List.map_cons, List.map_cons, cv_ref h0]
  refine va_zald C0.1 C0.2.1 C0.2.2.2.2.2.2.2.2.1.1 hA.1 a.toNat 1 he rfl (I_in hri i0 i1) hd ?_
  rw [I_clamp hri, en, ei]
  exact w
theorem rf_cv (b0 : Nat) (v : Int) : va_rf (if v < 0 then none else some (b0 + v.toNat)) = cv b0 (.inr v) := by
  show _ = (if v < 0 then Value.null else Value.ref (b0 + v.toNat))
  split <;> rfl
theorem a_aaload {N kd t0 : Nat} {C : String} {a i : Int} (hd : decode Y.2.1 pc = .ok (.aaload, 1)) (hk : 22 ≤ kd) (ht : (tysG (gA G))[t0]? = some (gA G kd, .object C)) (ho : gx G n μ → 0 ≤ a ∧ a < n ∧ SH a = (kd, N)) (i0 : 0 ≤ i) (i1 : i < N) (w : Wa G Y Z c0 s0 n μ (pc + 1) L (.inr (μ a i) :: st)) : Wa G Y Z c0 s0 n μ pc L (.inl i :: .inr a :: st) := by
  intro p e s m args below meth c H locs ls C0 hA hS hl oL oS
  obtain ⟨h0, h1, h2⟩ := ho hA.2.2.2
  have en := a_toNat h0
  have ei := a_toNat i0
  have hi : a.toNat < n := by omega
  have hsh : SH (a.toNat : Int) = (kd, N) := by rw [en]; exact h2
  have hri : inR i := okS_hd oS
  have w := w p e s m args below meth c H locs ls C0 hA hS hl oL (okS_cons trivial (okS_tl (okS_tl oS)))
  have he := world_at (cA := gA G) (b0 := gb G) (μ := μ) hi
  rw [ent_ref hsh hk] at he
  rw [List.map_cons, List.map_cons, cv_ref h0]
  refine va_aldq C0.1 C0.2.1 C0.2.2.2.2.2.2.2.2.1.1 hA.1 a.toNat t0 he ht (I_in hri i0 i1) hd ?_
  rw [I_clamp hri, en, ei, rf_cv]
  exact w
theorem a_alen {N kd t0 : Nat} {ty : FieldType} {a : Int} (hd : decode Y.2.1 pc = .ok (.arraylength, 1)) (hk : 12 ≤ kd) (hN : N < 2147483648) (ht : (tysG (gA G))[t0]? = some (gA G kd, ty)) (ho : gx G n μ → 0 ≤ a ∧ a < n ∧ SH a = (kd, N)) (w : Wa G Y Z c0 s0 n μ (pc + 1) L (.inl N :: st)) : Wa G Y Z c0 s0 n μ pc L (.inr a :: st) := by
  intro p e s m args below meth c H locs ls C0 hA hS hl oL oS
  obtain ⟨h0, h1, h2⟩ := ho hA.2.2.2
  have en := a_toNat h0
  have hi : a.toNat < n := by omega
  have hsh : SH (a.toNat : Int) = (kd, N) := by rw [en]; exact h2
  have w := w p e s m args below meth c H locs ls C0 hA hS hl oL (okS_cons (show inR (N : Int) from ⟨by omega, by omega⟩) (okS_tl oS))
  have he := world_at (cA := gA G) (b0 := gb G) (μ := μ) hi
  rw [List.map_cons, cv_ref h0]
  by_cases h22 : kd < 22
  · rw [ent_num hsh hk h22] at he
    exact va_alen C0.1 C0.2.1 C0.2.2.2.2.2.2.2.2.1.1 hA.1 a.toNat t0 he ht (v := I N) rfl hd w
  · rw [ent_ref hsh (by omega)] at he
    exact va_alen C0.1 C0.2.1 C0.2.2.2.2.2.2.2.2.1.1 hA.1 a.toNat t0 he ht (v := I N) rfl hd w
theorem num_set {cA : ClassId} {N i : Nat} {f : Nat → Int32} {x : Int32} (v : Value) (hv : v = .int x) : (arrV cA N (fun j => .int (f j))).setSlot i v = arrV cA N (fun j => .int (upd f i x j)) := by
  subst hv
  rw [arrV_store]
  congr 1
  funext q
  by_cases hq : q = i
  · subst hq
    simp [updV, upd]
  · simp [updV, upd, hq]
theorem a_iastore {N : Nat} {a i v : Int} (hd : decode Y.2.1 pc = .ok (.iastore, 1)) (ho : gx G n μ → 0 ≤ a ∧ a < n ∧ SH a = (20, N)) (i0 : 0 ≤ i) (i1 : i < N) (hx : gx G n μ → gx G n (up μ a i v)) (w : Wa G Y Z c0 s0 n (up μ a i v) (pc + 1) L st) : Wa G Y Z c0 s0 n μ pc L (.inl v :: .inl i :: .inr a :: st) := by
  intro p e s m args below meth c H locs ls C0 hA hS hl oL oS
  obtain ⟨h0, h1, h2⟩ := ho hA.2.2.2
  have en := a_toNat h0
  have ei := a_toNat i0
  have hi : a.toNat < n := by omega
  have hsh : SH (a.toNat : Int) = (20, N) := by rw [en]; exact h2
  have hrv : inR v := okS_hd oS
  have hri : inR i := okS_hd (okS_tl oS)
  have he := world_at (cA := gA G) (b0 := gb G) (μ := μ) hi
  rw [ent_num hsh (by decide) (by decide)] at he
  have hK := C0.2.2.2.2.2.2.2.2.1.1
  have hcl := I_clamp hri
  rw [List.map_cons, List.map_cons, List.map_cons, cv_ref h0]
  refine W.iast C0.1 C0.2.1 (hA.1 a.toNat _ he) ((hK.2 0 _ rfl).1 N (fun j => .int (I (μ a.toNat j)))) (fun q => by cases q) (by show ¬ (I i < 0 ∨ (arrV _ _ _).slots.size ≤ _); rw [arrV_size]; exact I_in hri i0 i1) rfl rfl hd fun H1 e1 z oq => ?_
  have hA' : AH G n (up μ a i v) H1 := by
    rw [← en, ← ei]
    refine AH_up hA hi ?_ z oq (fun _ => ?_) (by rw [en, ei]; exact hx hA.2.2.2)
    · rw [ent_up_num hsh (by decide) (by decide)]
      show H1[gb G + a.toNat]? = some (vp_cell _ _)
      rw [e1, hcl, vp_cell_i, vp_cell_i]
      exact congrArg some (num_set _ rfl)
    · rw [hsh]; exact hrv
  exact w p e s m args below meth c H1 _ ls C0 hA' (hS.put z oq (Nat.le_add_right _ _)) hl oL (okS_tl (okS_tl (okS_tl oS)))
theorem a_zastore {N : Nat} {a i v : Int} (hd : decode Y.2.1 pc = .ok (.bastore, 1)) (ho : gx G n μ → 0 ≤ a ∧ a < n ∧ SH a = (21, N)) (i0 : 0 ≤ i) (i1 : i < N) (hv : v = 0 ∨ v = 1) (hx : gx G n μ → gx G n (up μ a i v)) (w : Wa G Y Z c0 s0 n (up μ a i v) (pc + 1) L st) : Wa G Y Z c0 s0 n μ pc L (.inl v :: .inl i :: .inr a :: st) := by
  intro p e s m args below meth c H locs ls C0 hA hS hl oL oS
  obtain ⟨h0, h1, h2⟩ := ho hA.2.2.2
  have en := a_toNat h0
  have ei := a_toNat i0
  have hi : a.toNat < n := by omega
  have hsh : SH (a.toNat : Int) = (21, N) := by rw [en]; exact h2
  have hri : inR i := okS_hd (okS_tl oS)
  have he := world_at (cA := gA G) (b0 := gb G) (μ := μ) hi
  rw [ent_num hsh (by decide) (by decide)] at he
  have hK := C0.2.2.2.2.2.2.2.2.1.1
  have hcl := I_clamp hri
  rw [List.map_cons, List.map_cons, List.map_cons, cv_ref h0]
  refine W.zast C0.1 C0.2.1 (hA.1 a.toNat _ he) ((hK.2 1 _ rfl).1 N (fun j => .int (I (μ a.toNat j)))) (fun q => by cases q) (by show ¬ (I i < 0 ∨ (arrV _ _ _).slots.size ≤ _); rw [arrV_size]; exact I_in hri i0 i1) rfl rfl hd fun H1 e1 z oq => ?_
  have hA' : AH G n (up μ a i v) H1 := by
    rw [← en, ← ei]
    refine AH_up hA hi ?_ z oq (fun _ => ?_) (by rw [en, ei]; exact hx hA.2.2.2)
    · rw [ent_up_num hsh (by decide) (by decide)]
      show H1[gb G + a.toNat]? = some (vp_cell _ _)
      rw [e1, hcl, vp_cell_i, vp_cell_i]
      exact congrArg some (num_set _ (by rcases hv with rfl | rfl <;> rfl))
    · rw [hsh]; exact hv
  exact w p e s m args below meth c H1 _ ls C0 hA' (hS.put z oq (Nat.le_add_right _ _)) hl oL (okS_tl (okS_tl (okS_tl oS)))
theorem ref_set {cA : ClassId} {N i : Nat} {f : Nat → Option Nat} {x : Option Nat} (v : Value) (hv : v = va_rf x) : (arrV cA N (fun j => va_rf (f j))).setSlot i v = arrV cA N (fun j => va_rf (va_up f i x j)) := by
  subst hv
  rw [arrV_store]
  congr 1
  funext q
  by_cases hq : q = i
  · subst hq
    simp [updV, va_up]
  · simp [updV, va_up, hq]
theorem a_aastore {N N' kd t0 ci : Nat} {C : String} {T : u_T} {a i v : Int} (hd : decode Y.2.1 pc = .ok (.aastore, 1)) (hk : 22 ≤ kd) (ht : (tysG (gA G))[t0]? = some (gA G kd, .object C)) (ho : gx G n μ → 0 ≤ a ∧ a < n ∧ SH a = (kd, N)) (i0 : 0 ≤ i) (i1 : i < N)
    (F : ClF ci C T N') (hv : gx G n μ → 0 ≤ v ∧ v < n ∧ SH v = (ci, N')) (hx : gx G n μ → gx G n (up μ a i v)) (w : Wa G Y Z c0 s0 n (up μ a i v) (pc + 1) L st) : Wa G Y Z c0 s0 n μ pc L (.inr v :: .inl i :: .inr a :: st) := by
  intro p e s m args below meth c H locs ls C0 hA hS hl oL oS
  obtain ⟨h0, h1, h2⟩ := ho hA.2.2.2
  obtain ⟨v0, v1, v2⟩ := hv hA.2.2.2
  have en := a_toNat h0
  have ev := a_toNat v0
  have ei := a_toNat i0
  have hi : a.toNat < n := by omega
  have hsh : SH (a.toNat : Int) = (kd, N) := by rw [en]; exact h2
  have hvh : SH (v.toNat : Int) = (ci, N') := by rw [ev]; exact v2
  have hri : inR i := okS_hd (okS_tl oS)
  have he := world_at (cA := gA G) (b0 := gb G) (μ := μ) hi
  rw [ent_ref hsh hk] at he
  have hev := world_at (cA := gA G) (b0 := gb G) (μ := μ) (i := v.toNat) (n := n) (by omega)
  rw [ent_obj hvh F.1] at hev
  have hK := C0.2.2.2.2.2.2.2.2.1.1
  have hcl := I_clamp hri
  obtain ⟨r', hr', cellV, g1, g2, g3, -⟩ := hA.1 v.toNat _ hev
  have hcls := (hK.1 ci _ F.2.1).2
  obtain ⟨kA, comp, k1, k2, k3, -⟩ := (hK.2 t0 _ ht).2
  have hcomp : comp = (gD G).1 ci := Option.some.inj (k3.symm.trans hcls.1)
  subst hcomp
  obtain ⟨kC, hkC, -⟩ := hcls.2
  have h0' : ¬ I i < 0 := fun q => I_in hri i0 i1 (Or.inl q)
  have hlt : (I i).toNatClampNeg < N := by rw [hcl]; omega
  rw [List.map_cons, List.map_cons, List.map_cons, cv_ref h0, cv_ref v0]
  refine W.aast C0.1 C0.2.1 (hA.1 a.toNat _ he) (fun q h => by cases h) (fun h => by cases h) k1 k2 rfl hkC ⟨h0', by show _ < (arrV _ _ _).slots.size; rw [arrV_size]; exact hlt⟩ g1 (fun q h => by rw [g3] at h; cases h) (by rw [g2]; exact hkC) (by rw [g2]; exact va_assign hcls) rfl rfl hd fun H1 e1 z oq => ?_
  have hA' : AH G n (up μ a i v) H1 := by
    rw [← en, ← ei]
    refine AH_up hA hi ?_ z oq (fun _ => ?_) (by rw [en, ei]; exact hx hA.2.2.2)
    · rw [ent_up_ref hsh hk]
      show H1[gb G + a.toNat]? = some (vp_cell _ _)
      rw [e1, hcl, vp_cell_q, vp_cell_q]
      refine congrArg some (ref_set _ ?_)
      rw [rf_cv, cv_ref v0]
    · rw [hsh]
      have : ety kd i.toNat = .object "" := by
        unfold ety
        rw [if_neg (by omega), if_neg (by omega), if_neg (by omega)]
      rw [this]
      trivial
  exact w p e s m args below meth c H1 _ ls C0 hA' (hS.put z oq (Nat.le_add_right _ _)) hl oL (okS_tl (okS_tl (okS_tl oS)))
theorem objD_ok (ci k : Nat) (h : smallT (tyC ci k)) : okT (tyC ci k) (objD ci k) ∧ cv 0 (av (tyC ci k) (objD ci k)) = defaultValue (tyC ci k) := by
  have e : objD ci (k : Int) = if isRefT (tyC ci k) = true then -1 else 0 := rfl
  rw [e]
  obtain ⟨h1, h2, h3, h4, h5, h6⟩ := h
  generalize tyC ci k = t at h1 h2 h3 h4 h5 h6 ⊢
  cases t with
  | int => exact ⟨⟨by decide, by decide⟩, rfl⟩
  | boolean => exact ⟨Or.inl rfl, rfl⟩
  | object _ => exact ⟨trivial, rfl⟩
  | array _ => exact ⟨trivial, rfl⟩
  | byte => exact absurd rfl h1
  | char => exact absurd rfl h2
  | short => exact absurd rfl h3
  | long => exact absurd rfl h4
  | float => exact absurd rfl h5
  | double => exact absurd rfl h6
theorem objD_cv (ci k b0 : Nat) : cv b0 (av (tyC ci k) (objD ci k)) = cv 0 (av (tyC ci k) (objD ci k)) := by
  have e : objD ci (k : Int) = if isRefT (tyC ci k) = true then -1 else 0 := rfl
  rw [e]
  unfold av
  by_cases h : isRefT (tyC ci k) = true
  · rw [if_pos h, if_pos h]; rfl
  · rw [if_neg h, if_neg h]; rfl
theorem a_new {ci N idx : Nat} {C : String} {T : u_T} (F : ClF ci C T N) (hty : ∀ k, k < N → smallT (tyC ci k)) (hd : decode Y.2.1 pc = .ok (.new idx, 3)) (hl : Cond.classLink Y.1.cls idx C ∈ gT) (hi : Cond.instantiable C N ∈ gT) (hin : Cond.initialized C ∈ gT) (hsh : SH (n : Int) = (ci, N))
    (hc : c0 + 1 ≤ Y.2.2.2.2.2.2.1) (hs : s0 + N ≤ Y.2.2.2.2.2.2.2) (hx : gx G n μ → gx G (n + 1) (nw μ n (objD ci))) (w : Wa G Y Z (c0 + 1) (s0 + N) (n + 1) (nw μ n (objD ci)) (pc + 3) L (.inr n :: st)) : Wa G Y Z c0 s0 n μ pc L st := by
  intro p e s m args below meth c H locs ls C0 hA hS hl' oL oS
  obtain ⟨C1, C2, C3, C4, C5, C6, C7, C8, C9⟩ := id C0
  have hKn := C9.1.1.1 ci _ F.2.1
  refine W.newcK C1 C2 C7 (C8 _ hl) (C8 _ hi) (C8 _ hin) rfl hd hc hs hKn.2.1 rfl fun H1 kC hkC e1 z1 o1 => ?_
  have hA' : AH G (n + 1) (nw μ n (objD ci)) H1 := by
    refine AH_nw hA ?_ z1 o1 (fun j hj => ?_) (hx hA.2.2.2)
    · rw [ent_obj hsh F.1, nw_at]
      have hb := u_born (tyC ci) C8 F.2.2.2.2 hKn hkC e1 F.2.2.1
      rw [hA.2.1] at hb
      refine ⟨_, F.2.1, hb.to (fun j hj => ?_)⟩
      have := (objD_ok ci j (hty j hj)).2
      simp only [vp_V, List.getD, List.getElem?_map, List.getElem?_range hj, Option.map_some, Option.getD_some]
      rw [objD_cv, this]
    · rw [hsh] at hj ⊢
      have : ety ci j = tyC ci j := if_pos F.1
      rw [this]
      exact (objD_ok ci j (hty j hj)).1
  have w := w p e s m args below meth c H1 locs ls C0 hA' ⟨Nat.le_trans hS.1 (by omega), fun x h1 h2 => (o1 x (Nat.lt_of_lt_of_le h1 hS.1)).trans (hS.2.1 x h1 h2), hS.2.2⟩ hl' oL (okS_cons trivial oS)
  rw [List.map_cons, cv_ref (by omega), Int.toNat_natCast, ← hA.2.1] at w
  exact w
theorem fc_pin {U : State} {cA : ClassId} {t : FieldType} (h : va_RA U cA t) : U.vm.findClass ("[" ++ t.toString) = some cA := by
  cases t with
  | object C =>
    obtain ⟨_, _, _, _, _, h⟩ := h
    exact h
  | _ => exact h
theorem a_newint {N : Nat} (hd : decode Y.2.1 pc = .ok (.newarray .int, 2)) (harr : Cond.arrayClass (newarray.typeOf .int) ∈ gT) (hN : N < 1000000) (hsh : SH (n : Int) = (20, N)) (hc : c0 + 1 ≤ Y.2.2.2.2.2.2.1) (hs : s0 + N ≤ Y.2.2.2.2.2.2.2)
    (hx : gx G n μ → gx G (n + 1) (nw μ n zeroD)) (w : Wa G Y Z (c0 + 1) (s0 + N) (n + 1) (nw μ n zeroD) (pc + 2) L (.inr n :: st)) : Wa G Y Z c0 s0 n μ pc L (.inl N :: st) := by
  intro p e s m args below meth c H locs ls C0 hA hS hl' oL oS
  obtain ⟨C1, C2, C3, C4, C5, C6, C7, C8, C9⟩ := id C0
  have hr : inR (N : Int) := okS_hd oS
  have hcl : (I (N : Int)).toNatClampNeg = N := by rw [I_clamp hr]; omega
  refine va_newaK C1 C2 (C8 _ harr) rfl hd rfl (fun q => ?_) hcl (by show N * 4 ≤ _; omega) hc hs rfl fun H1 cA e1 z1 o1 hAr hNm => ?_
  · rw [I_zero, I_lt hr zero_in] at q
    omega
  have hcA : cA = gA G 20 := Option.some.inj (hNm.symm.trans (fc_pin (C9.1.1.2 0 _ rfl).2))
  have hA' : AH G (n + 1) (nw μ n zeroD) H1 := by
    refine AH_nw hA ?_ z1 o1 (fun j hj => ?_) (hx hA.2.2.2)
    · rw [ent_num hsh (by decide) (by decide), nw_at]
      show H1[gb G + n]? = some (vp_cell _ _)
      rw [vp_cell_i, ← hA.2.1, e1, hcA]
      rfl
    · rw [hsh]
      exact zero_in
  have w := w p e s m args below meth c H1 locs ls C0 hA' ⟨Nat.le_trans hS.1 (by omega), fun x h1 h2 => (o1 x (Nat.lt_of_lt_of_le h1 hS.1)).trans (hS.2.1 x h1 h2), hS.2.2⟩ hl' oL (okS_cons trivial (okS_tl oS))
  rw [List.map_cons, cv_ref (by omega), Int.toNat_natCast, ← hA.2.1] at w
  exact w
theorem a_newbool {N : Nat} (hd : decode Y.2.1 pc = .ok (.newarray .boolean, 2)) (harr : Cond.arrayClass (newarray.typeOf .boolean) ∈ gT) (hN : N < 1000000) (hsh : SH (n : Int) = (21, N)) (hc : c0 + 1 ≤ Y.2.2.2.2.2.2.1) (hs : s0 + N ≤ Y.2.2.2.2.2.2.2)
    (hx : gx G n μ → gx G (n + 1) (nw μ n zeroD)) (w : Wa G Y Z (c0 + 1) (s0 + N) (n + 1) (nw μ n zeroD) (pc + 2) L (.inr n :: st)) : Wa G Y Z c0 s0 n μ pc L (.inl N :: st) := by
  intro p e s m args below meth c H locs ls C0 hA hS hl' oL oS
  obtain ⟨C1, C2, C3, C4, C5, C6, C7, C8, C9⟩ := id C0
  have hr : inR (N : Int) := okS_hd oS
  have hcl : (I (N : Int)).toNatClampNeg = N := by rw [I_clamp hr]; omega
  refine va_newaK C1 C2 (C8 _ harr) rfl hd rfl (fun q => ?_) hcl (by show N * 1 ≤ _; omega) hc hs rfl fun H1 cA e1 z1 o1 hAr hNm => ?_
  · rw [I_zero, I_lt hr zero_in] at q
    omega
  have hcA : cA = gA G 21 := Option.some.inj (hNm.symm.trans (fc_pin (C9.1.1.2 1 _ rfl).2))
  have hA' : AH G (n + 1) (nw μ n zeroD) H1 := by
    refine AH_nw hA ?_ z1 o1 (fun j hj => ?_) (hx hA.2.2.2)
    · rw [ent_num hsh (by decide) (by decide), nw_at]
      show H1[gb G + n]? = some (vp_cell _ _)
      rw [vp_cell_i, ← hA.2.1, e1, hcA]
      rfl
    · rw [hsh]
      exact Or.inl rfl
  have w := w p e s m args below meth c H1 locs ls C0 hA' ⟨Nat.le_trans hS.1 (by omega), fun x h1 h2 => (o1 x (Nat.lt_of_lt_of_le h1 hS.1)).trans (hS.2.1 x h1 h2), hS.2.2⟩ hl' oL (okS_cons trivial (okS_tl oS))
  rw [List.map_cons, cv_ref (by omega), Int.toNat_natCast, ← hA.2.1] at w
  exact w
theorem a_newref {N kd t0 idx : Nat} {C : String} (hd : decode Y.2.1 pc = .ok (.anewarray idx, 3)) (hk : 22 ≤ kd) (ht : (tysG (gA G))[t0]? = some (gA G kd, .object C)) (hl : Cond.classLink Y.1.cls idx C ∈ gT) (hao : ∀ U, K0 G U → va_AO C U) (hN : N < 1000000) (hsh : SH (n : Int) = (kd, N)) (hc : c0 + 1 ≤ Y.2.2.2.2.2.2.1) (hs : s0 + N ≤ Y.2.2.2.2.2.2.2)
    (hx : gx G n μ → gx G (n + 1) (nw μ n nullD)) (w : Wa G Y Z (c0 + 1) (s0 + N) (n + 1) (nw μ n nullD) (pc + 3) L (.inr n :: st)) : Wa G Y Z c0 s0 n μ pc L (.inl N :: st) := by
  intro p e s m args below meth c H locs ls C0 hA hS hl' oL oS
  obtain ⟨C1, C2, C3, C4, C5, C6, C7, C8, C9⟩ := id C0
  have hr : inR (N : Int) := okS_hd oS
  have hcl : (I (N : Int)).toNatClampNeg = N := by rw [I_clamp hr]; omega
  have hlk := C8 _ hl
  refine W.anew C1 C2 C7 hlk (va_AO.use (hao s C9.1)) rfl hd rfl (fun q => ?_) (by rw [hcl]; omega) hc (by rw [hcl]; exact hs) fun cA kA comp f1 f2 f3 f4 => ?_
  · rw [I_zero, I_lt hr zero_in] at q
    omega
  rw [hcl]
  generalize hH1 : H.push ({ cls := cA, slots := Array.replicate N .null, vm := .none } : Cell) = H1
  have z1 : H1.size = H.size + 1 := by rw [← hH1, Array.size_push]
  have e1 : H1[H.size]? = some (arrV cA N (fun _ => .null)) := by rw [← hH1, Array.getElem?_push_size, ← arrV_new]
  have o1 : ∀ q : Nat, q < H.size → H1[q]? = H[q]? := fun q hq => by rw [← hH1, Array.getElem?_push, if_neg (Nat.ne_of_lt hq)]
  have hcA : cA = gA G kd := Option.some.inj (f1.symm.trans (fc_pin (C9.1.1.2 t0 _ ht).2))
  have hA' : AH G (n + 1) (nw μ n nullD) H1 := by
    refine AH_nw hA ?_ z1 o1 (fun j hj => ?_) (hx hA.2.2.2)
    · rw [ent_ref hsh hk, nw_at]
      show H1[gb G + n]? = some (vp_cell _ _)
      rw [vp_cell_q, ← hA.2.1, e1, hcA]
      rfl
    · rw [hsh]
      have : ety kd j = .object "" := by
        unfold ety
        rw [if_neg (by omega), if_neg (by omega), if_neg (by omega)]
      rw [this]
      trivial
  have w := w p e s m args below meth c H1 locs ls C0 hA' ⟨Nat.le_trans hS.1 (by omega), fun x h1 h2 => (o1 x (Nat.lt_of_lt_of_le h1 hS.1)).trans (hS.2.1 x h1 h2), hS.2.2⟩ hl' oL (okS_cons trivial (okS_tl oS))
  rw [List.map_cons, cv_ref (by omega), Int.toNat_natCast, ← hA.2.1] at w
  exact w
theorem cat_sum (b0 : Nat) (st : List AV) : ((st.map (cv b0)).map fun v => v.category).sum = st.length := by
  induction st with
  | nil => rfl
  | cons v t ih =>
    rw [List.map_cons, List.map_cons, List.sum_cons, ih, cv_cat, List.length_cons]
    omega
theorem a_objInit {idx : Nat} {a : Int} (hd : decode Y.2.1 pc = .ok (.invokespecial idx, 3)) (hl : Cond.methodLink Y.1.cls idx Lib.objectInit ∈ gT) (h1 : Cond.instanceMethod Lib.objectInit ∈ gT) (h2 : Cond.code Lib.objectInit ⟨#[0xb1]⟩ 1 none ∈ gT) (ha : 0 ≤ a) (hst : st.length ≤ 8)
    (hf : 1 ≤ Y.2.2.2.2.1) (hlo : 20 ≤ Y.2.2.2.2.2.1) (w : Wa G Y Z c0 s0 n μ (pc + 3) L st) : Wa G Y Z c0 s0 n μ pc L (.inr a :: st) := by
  intro p e s m args below meth c H locs ls C0 hA hS hl' oL oS
  obtain ⟨C1, C2, C3, C4, C5, C6, C7, C8, C9⟩ := id C0
  have w := w p e s m args below meth c H locs ls C0 hA hS hl' oL (okS_tl oS)
  rw [List.map_cons, cv_ref ha]
  refine W.objInit C1 C2 C7 (C8 _ hl) (C8 _ h1) (C8 _ h2) rfl (by rw [C3]; exact hl'.1) rfl hd hf ?_ w
  rw [cat_sum]
  show 2 * 0 + st.length + 12 ≤ Y.2.2.2.2.2.1
  omega
theorem a_max {idx : Nat} {x y : Int} (hd : decode Y.2.1 pc = .ok (.invokestatic idx, 3)) (hl : Cond.methodLink Y.1.cls idx Lib.Math.max.name ∈ gT) (h1 : Cond.static Lib.Math.max.name ∈ gT) (h2 : Cond.initialized "java/lang/Math" ∈ gT) (h3 : Cond.code Lib.Math.max.name Lib.Math.max.code 2 (some .int) ∈ gT) (hst : st.length ≤ 7)
    (hf : 1 ≤ Y.2.2.2.2.1) (hlo : 20 ≤ Y.2.2.2.2.2.1) (hc : c0 ≤ Y.2.2.2.2.2.2.1) (hs : s0 ≤ Y.2.2.2.2.2.2.2) (w : Wa G Y Z c0 s0 n μ (pc + 3) L (.inl (if x < y then y else x) :: st)) : Wa G Y Z c0 s0 n μ pc L (.inl y :: .inl x :: st) := by
  intro p e s m args below meth c H locs ls C0 hA hS hl' oL oS
  obtain ⟨C1, C2, C3, C4, C5, C6, C7, C8, C9⟩ := id C0
  have hy : inR y := okS_hd oS
  have hx : inR x := okS_hd (okS_tl oS)
  have w := w p e s m args below meth c H locs ls C0 hA hS hl' oL (okS_cons (by show inR _; split <;> assumption) (okS_tl (okS_tl oS)))
  refine va_mmax C1 C2 (by rw [C3]; exact hl'.1.symm) C7 (C8 _ hl) (C8 _ h1) (C8 _ h2) (C8 _ h3) hf ?_ hc hs hd ?_
  · rw [cat_sum]
    show st.length + 13 ≤ Y.2.2.2.2.2.1
    omega
  · have e1 : (if I x < I y then I y else I x) = I (if x < y then y else x) := by
      by_cases h : x < y
      · rw [if_pos h, if_pos ((I_lt hx hy).mpr h)]
      · rw [if_neg h, if_neg (fun q => h ((I_lt hx hy).mp q))]
    rw [e1]
    exact w
theorem a_min {idx : Nat} {x y : Int} (hd : decode Y.2.1 pc = .ok (.invokestatic idx, 3)) (hl : Cond.methodLink Y.1.cls idx Lib.Math.min.name ∈ gT) (h1 : Cond.static Lib.Math.min.name ∈ gT) (h2 : Cond.initialized "java/lang/Math" ∈ gT) (h3 : Cond.code Lib.Math.min.name Lib.Math.min.code 2 (some .int) ∈ gT) (hst : st.length ≤ 7)
    (hf : 1 ≤ Y.2.2.2.2.1) (hlo : 20 ≤ Y.2.2.2.2.2.1) (hc : c0 ≤ Y.2.2.2.2.2.2.1) (hs : s0 ≤ Y.2.2.2.2.2.2.2) (w : Wa G Y Z c0 s0 n μ (pc + 3) L (.inl (if y < x then y else x) :: st)) : Wa G Y Z c0 s0 n μ pc L (.inl y :: .inl x :: st) := by
  intro p e s m args below meth c H locs ls C0 hA hS hl' oL oS
  obtain ⟨C1, C2, C3, C4, C5, C6, C7, C8, C9⟩ := id C0
  have hy : inR y := okS_hd oS
  have hx : inR x := okS_hd (okS_tl oS)
  have w := w p e s m args below meth c H locs ls C0 hA hS hl' oL (okS_cons (by show inR _; split <;> assumption) (okS_tl (okS_tl oS)))
  refine va_mmin C1 C2 (by rw [C3]; exact hl'.1.symm) C7 (C8 _ hl) (C8 _ h1) (C8 _ h2) (C8 _ h3) hf ?_ hc hs hd ?_
  · rw [cat_sum]
    show st.length + 13 ≤ Y.2.2.2.2.2.1
    omega
  · have e1 : (if I y < I x then I y else I x) = I (if y < x then y else x) := by
      by_cases h : y < x
      · rw [if_pos h, if_pos ((I_lt hy hx).mpr h)]
      · rw [if_neg h, if_neg (fun q => h ((I_lt hy hx).mp q))]
    rw [e1]
    exact w
end RowsD
end
section
-- contracts, entries, ends and calls
def QI (G : GT) (Q : Int → Nat → Mem → Prop) : Array Value → State → Outcome → State → Prop := va_Qi (S := Int × Nat × Mem) (fun r u => r = I u.1 ∧ inR u.1 ∧ Q u.1 u.2.1 u.2.2) (fun u t => AH G u.2.1 u.2.2 t.heap) (fun q : Nat => gb G ≤ q)
def QV (G : GT) (Q : Nat → Mem → Prop) : Array Value → State → Outcome → State → Prop := va_Qv (S := Nat × Mem) (fun u => Q u.1 u.2) (fun u t => AH G u.1 u.2 t.heap) (fun q : Nat => gb G ≤ q)
def QR (G : GT) (Q : Int → Nat → Mem → Prop) : Array Value → State → Outcome → State → Prop := va_Qr (S := Int × Nat × Mem) (fun u => 0 ≤ u.1 ∧ Q u.1 u.2.1 u.2.2) (fun u a t => a = gb G + u.1.toNat ∧ AH G u.2.1 u.2.2 t.heap) (fun q : Nat => gb G ≤ q)
def PreC (G : GT) (As : List AV) (n : Nat) (μ : Mem) : Array Value → State → Prop := fun v U => v = (As.map (cv (gb G))).toArray ∧ AH G n μ U.heap ∧ K0 G U
/-- the contract of a method at these arguments and this memory: it returns an int .. -/
def CI (G : GT) (Y : MD) (As : List AV) (n : Nat) (μ : Mem) (Q : Int → Nat → Mem → Prop) : Prop :=
  okS As → Met (gl G) Y.1 (wsM Y) (rmOf Y) (PreC G As n μ) (QI G Q) Y.2.2.2.2.2.2.1 Y.2.2.2.2.2.2.2 (fun q : Nat => gb G ≤ q)
/-- .. nothing .. -/
def CV (G : GT) (Y : MD) (As : List AV) (n : Nat) (μ : Mem) (Q : Nat → Mem → Prop) : Prop :=
  okS As → Met (gl G) Y.1 (wsM Y) (rmOf Y) (PreC G As n μ) (QV G Q) Y.2.2.2.2.2.2.1 Y.2.2.2.2.2.2.2 (fun q : Nat => gb G ≤ q)
/-- .. a cell -/
def CR (G : GT) (Y : MD) (As : List AV) (n : Nat) (μ : Mem) (Q : Int → Nat → Mem → Prop) : Prop :=
  okS As → Met (gl G) Y.1 (wsM Y) (rmOf Y) (PreC G As n μ) (QR G Q) Y.2.2.2.2.2.2.1 Y.2.2.2.2.2.2.2 (fun q : Nat => gb G ≤ q)
def ZI (G : GT) (Y : MD) (Q : Int → Nat → Mem → Prop) : ZT := (fun below args s => MQ below (QI G Q) args s Y.2.2.2.2.2.2.1 Y.2.2.2.2.2.2.2 (fun q : Nat => gb G ≤ q), fun _ _ => True)
def ZV (G : GT) (Y : MD) (Q : Nat → Mem → Prop) : ZT := (fun below args s => MQ below (QV G Q) args s Y.2.2.2.2.2.2.1 Y.2.2.2.2.2.2.2 (fun q : Nat => gb G ≤ q), fun _ _ => True)
def ZR (G : GT) (Y : MD) (Q : Int → Nat → Mem → Prop) : ZT := (fun below args s => MQ below (QR G Q) args s Y.2.2.2.2.2.2.1 Y.2.2.2.2.2.2.2 (fun q : Nat => gb G ≤ q), fun _ _ => True)
def argL : Nat → List AV → List (Nat × AV)
  | _, [] => []
  | i, v :: t => (i, v) :: argL (i + 1) t
theorem argL_lv (b0 i : Nat) (As : List AV) : lv_args i (As.map (cv b0)) = cvL b0 (argL i As) := by
  induction As generalizing i with
  | nil => rfl
  | cons v t ih =>
    rw [List.map_cons]
    show (i, cv b0 v) :: lv_args (if (cv b0 v).category = 2 then i + 2 else i + 1) (t.map (cv b0)) = (i, cv b0 v) :: cvL b0 (argL (i + 1) t)
    rw [if_neg (by rw [cv_cat]; decide), ih]
theorem argL_ok {i : Nat} {As : List AV} (h : okS As) : okL (argL i As) := by
  induction As generalizing i with
  | nil => intro q hq; cases hq
  | cons v t ih =>
    intro q hq
    rcases List.mem_cons.mp hq with rfl | hq
    · exact okS_hd h
    · exact ih (okS_tl h) q hq
theorem lg_len (b0 : Nat) (As : List AV) : (lg_sl (As.map (cv b0))).length = As.length := by
  induction As with
  | nil => rfl
  | cons v t ih =>
    unfold lg_sl at ih ⊢
    rw [List.map_cons, List.flatMap_cons, List.length_append, ih, if_neg (by rw [cv_cat]; decide), List.length_cons]
    simp only [List.length_cons, List.length_nil]
    omega
/-- the entry of a method, whatever it returns -/
theorem e_core {G : GT} {Y : MD} {As : List AV} {n : Nat} {μ : Mem} {Qc : Array Value → State → Outcome → State → Prop} {Z : ZT} (hZ : ∀ below args s, Z.1 below args s = MQ below Qc args s Y.2.2.2.2.2.2.1 Y.2.2.2.2.2.2.2 (fun q : Nat => gb G ≤ q)) (hZ2 : ∀ args s, Z.2 args s)
    (hp : plainName Y.1.cls = true) (hA : As.length ≤ Y.2.2.1) (ok : okS As) (w : Wa G Y Z 0 0 n μ 0 (argL 0 As) []) : Met (gl G) Y.1 (wsM Y) (rmOf Y) (PreC G As n μ) Qc Y.2.2.2.2.2.2.1 Y.2.2.2.2.2.2.2 (fun q : Nat => gb G ≤ q) := by
  refine Met.ofW (cc := Y.2.1) (maxL := Y.2.2.1) (ret := Y.2.2.2.1) hp rfl ?_
  intro p e s m args below meth c s₁ B hml hv
  obtain ⟨rfl, hH, hK⟩ := hv
  have hts := atoms_spec (ws := wsM Y) B.pre
  have hown : s.vm.findClass Y.1.cls = some m.cls := findClass_of_methodNamed B.named
  have hl := lv_entry (As.map (cv (gb G))) (n := Y.2.2.1) (by rw [lg_len]; exact hA)
  rw [argL_lv] at hl
  rw [lg_entry_eq, ← hZ]
  exact w p e s m _ below meth c s.heap [] _ ⟨B.exec, B.bytes, hml, B.returns, B.notSynchronized, fun h => (name_of_methodNamed B.named B.method).1.trans h, hown, fun w hw => hts w (List.mem_cons_of_mem _ hw), hK, by rw [hH.2.1]; exact Nat.le_add_right _ _, hZ2 _ _⟩ hH va_S.rf hl (argL_ok ok) (fun _ h => by cases h)
theorem e_I {G : GT} {Y : MD} {As : List AV} {n : Nat} {μ : Mem} {Q : Int → Nat → Mem → Prop} (hp : plainName Y.1.cls = true) (hA : As.length ≤ Y.2.2.1) (w : Wa G Y (ZI G Y Q) 0 0 n μ 0 (argL 0 As) []) : CI G Y As n μ Q :=
  fun ok => e_core (Z := ZI G Y Q) (fun _ _ _ => rfl) (fun _ _ => trivial) hp hA ok w
theorem e_V {G : GT} {Y : MD} {As : List AV} {n : Nat} {μ : Mem} {Q : Nat → Mem → Prop} (hp : plainName Y.1.cls = true) (hA : As.length ≤ Y.2.2.1) (w : Wa G Y (ZV G Y Q) 0 0 n μ 0 (argL 0 As) []) : CV G Y As n μ Q :=
  fun ok => e_core (Z := ZV G Y Q) (fun _ _ _ => rfl) (fun _ _ => trivial) hp hA ok w
theorem e_R {G : GT} {Y : MD} {As : List AV} {n : Nat} {μ : Mem} {Q : Int → Nat → Mem → Prop} (hp : plainName Y.1.cls = true) (hA : As.length ≤ Y.2.2.1) (w : Wa G Y (ZR G Y Q) 0 0 n μ 0 (argL 0 As) []) : CR G Y As n μ Q :=
  fun ok => e_core (Z := ZR G Y Q) (fun _ _ _ => rfl) (fun _ _ => trivial) hp hA ok w
section Ends
variable {G : GT} {Y : MD} {c0 s0 n pc : Nat} {μ : Mem} {L : List (Nat × AV)}
theorem a_iret {Q : Int → Nat → Mem → Prop} {v : Int} (hd : decode Y.2.1 pc = .ok (.ireturn, 1)) (hr : Y.2.2.2.1 = some .int) (hc : c0 ≤ Y.2.2.2.2.2.2.1) (hs : s0 ≤ Y.2.2.2.2.2.2.2) (q : Q v n μ) : Wa G Y (ZI G Y Q) c0 s0 n μ pc L [.inl v] := by
  intro p e s m args below meth c H locs ls C hA hS hl oL oS
  obtain ⟨C1, C2, C3, C4, C5, C6, C7, C8, C9⟩ := C
  refine W.widen hc hs ?_
  exact W.iret C1 C2 (C4.trans hr) (fun t ht hW => ⟨⟨_, (v, n, μ), rfl, ⟨rfl, okS_hd oS, q⟩, by show AH G n μ t.heap; rw [ht]; exact hA⟩, hS.F ht⟩) hS.2.2 hd C5
theorem a_zret {Q : Int → Nat → Mem → Prop} {v : Int} (hd : decode Y.2.1 pc = .ok (.ireturn, 1)) (hr : Y.2.2.2.1 = some .boolean) (hc : c0 ≤ Y.2.2.2.2.2.2.1) (hs : s0 ≤ Y.2.2.2.2.2.2.2) (hv : v = 0 ∨ v = 1) (q : Q v n μ) : Wa G Y (ZI G Y Q) c0 s0 n μ pc L [.inl v] := by
  intro p e s m args below meth c H locs ls C hA hS hl oL oS
  obtain ⟨C1, C2, C3, C4, C5, C6, C7, C8, C9⟩ := C
  refine W.widen hc hs ?_
  exact W.zret C1 C2 (C4.trans hr) (by rcases hv with rfl | rfl <;> rfl) (fun t ht hW => ⟨⟨_, (v, n, μ), rfl, ⟨rfl, okS_hd oS, q⟩, by show AH G n μ t.heap; rw [ht]; exact hA⟩, hS.F ht⟩) hS.2.2 hd C5
theorem a_ret {Q : Nat → Mem → Prop} (hd : decode Y.2.1 pc = .ok (.return_, 1)) (hr : Y.2.2.2.1 = none) (hc : c0 ≤ Y.2.2.2.2.2.2.1) (hs : s0 ≤ Y.2.2.2.2.2.2.2) (q : Q n μ) : Wa G Y (ZV G Y Q) c0 s0 n μ pc L [] := by
  intro p e s m args below meth c H locs ls C hA hS hl oL oS
  obtain ⟨C1, C2, C3, C4, C5, C6, C7, C8, C9⟩ := C
  refine W.widen hc hs ?_
  exact W.vret C1 C2 (C4.trans hr) (fun t ht hW => ⟨⟨(n, μ), rfl, q, by show AH G n μ t.heap; rw [ht]; exact hA⟩, hS.F ht⟩) hS.2.2 hd C5
theorem a_aret {Q : Int → Nat → Mem → Prop} {a : Int} {C : String} (hd : decode Y.2.1 pc = .ok (.areturn, 1)) (hr : Y.2.2.2.1 = some (.object C)) (hc : c0 ≤ Y.2.2.2.2.2.2.1) (hs : s0 ≤ Y.2.2.2.2.2.2.2) (ha : 0 ≤ a) (q : Q a n μ) : Wa G Y (ZR G Y Q) c0 s0 n μ pc L [.inr a] := by
  intro p e s m args below meth c H locs ls C hA hS hl oL oS
  obtain ⟨C1, C2, C3, C4, C5, C6, C7, C8, C9⟩ := C
  refine W.widen hc hs ?_
  rw [List.map_cons, cv_ref ha]
  exact W.aret C1 C2 (C4.trans hr) (Or.inl ⟨_, rfl⟩) (Or.inr ⟨_, rfl⟩) (fun t ht hW => ⟨⟨(a, n, μ), _, rfl, ⟨ha, q⟩, ⟨rfl, by show AH G n μ t.heap; rw [ht]; exact hA⟩⟩, hS.F ht⟩) hS.2.2 hd C5
end Ends
theorem good_gT : ∀ w ∈ gT, (w.onTables && w.keeps) = true ∨ ∃ ty, w = .arrayClass ty := fun _ h => good_of_word (List.mem_filter.mp h).2
theorem gIn {l : List Cond} (h : ∀ w ∈ l, w ∈ gT) : GoodIn gT l := fun w hw => ⟨h w hw, good_gT w (h w hw)⟩
/-- what the tables say of a method -/
def MC (Y : MD) (k : Nat) : Prop := Cond.code Y.1 Y.2.1 Y.2.2.1 Y.2.2.2.1 ∈ gT ∧ Cond.initialized Y.1.cls ∈ gT ∧ (Y.1.cls ≠ "java/lang/invoke/MethodHandle" ∧ Y.1.cls ≠ "java/lang/invoke/VarHandle" ∧ (parseMethodDescriptor Y.1.desc).map (fun d => d.parameters.length) = some k)
theorem ws_in {Y : MD} {k : Nat} (h : MC Y k) : ∀ w ∈ wsM Y, w ∈ gT := fun w hw => by
  rcases List.mem_cons.mp hw with rfl | hw
  · exact h.1
  · exact hw
theorem pre_blind (G : GT) (As : List AV) (n : Nat) (μ : Mem) : FrameBlind (PreC G As n μ) := fun a U g mk h => ⟨h.1, h.2.1, K0_calling g mk a h.2.2⟩
/-- the callee's room fits -/
def fits2 (Y Yc : MD) (c0 s0 : Nat) : Prop := (Yc.2.2.2.2.1 + 1 ≤ Y.2.2.2.2.1 ∧ 8 + (Yc.2.2.1 + 11) + Yc.2.2.2.2.2.1 ≤ Y.2.2.2.2.2.1) ∧ (c0 + Yc.2.2.2.2.2.2.1 ≤ Y.2.2.2.2.2.2.1 ∧ s0 + Yc.2.2.2.2.2.2.2 ≤ Y.2.2.2.2.2.2.2)
section CallsA
variable {G : GT} {Y Yc : MD} {Z : ZT} {c0 s0 n pc idx : Nat} {μ : Mem} {L : List (Nat × AV)} {st stk As : List AV}
theorem okS_app {a b : List AV} (h : okS (a ++ b)) : okS a ∧ okS b := ⟨fun v hv => h v (List.mem_append_left _ hv), fun v hv => h v (List.mem_append_right _ hv)⟩
theorem okS_rev {a : List AV} (h : okS a.reverse) : okS a := fun v hv => h v (List.mem_reverse.mpr hv)
theorem map_arr {b0 : Nat} {a : Int} {As : List AV} (ha : 0 ≤ a) : ((.inr a :: As).map (cv b0)).toArray = (Value.ref (b0 + a.toNat) :: As.map (cv b0)).toArray := by
  rw [List.map_cons, cv_ref ha]
/-- the run of a virtual call -/
theorem run_V {Qc : Array Value → State → Outcome → State → Prop} {ci N : Nat} {T : u_T} {a : Int} {p : Program} {e : Env} {s : State} {m : MethodId} {args : Array Value} {below : List Frame} {meth : Method} {c : Code} {H : Heap} {locs : List Loc} {ls : Array Slot}
    (C : Cx G Y Z p s m args meth c) (hA : AH G n μ H) (hl' : lv_has ls Y.2.2.1 (cvL (gb G) L)) (hd : decode Y.2.1 pc = .ok (.invokevirtual idx, 3)) (hlk : Cond.methodLink Y.1.cls idx Yc.1 ∈ gT) (hm : MC Yc As.length) (hi : Cond.instanceMethod Yc.1 ∈ gT) (hse : Cond.selects Yc.1.cls Yc.1 Yc.1 ∈ gT)
    (hst : st.length ≤ 8) (hfit : fits2 Y Yc c0 s0) (hc : vwCl[ci]? = some (Yc.1.cls, T, N)) (hci : ci < 12) (ho : 0 ≤ a ∧ a < n ∧ SH a = (ci, N)) (hM : Met (gl G) Yc.1 (wsM Yc) (rmOf Yc) (PreC G (.inr a :: As) n μ) Qc Yc.2.2.2.2.2.2.1 Yc.2.2.2.2.2.2.2 (fun q : Nat => gb G ≤ q)) :
    va_Run p (gl G) e (rmOf Y) s m args below meth c H locs c0 s0 Yc.2.2.2.2.2.2.1 Yc.2.2.2.2.2.2.2 (F0 m pc ls ((As.reverse ++ .inr a :: st).map (cv (gb G)))) (st.map (cv (gb G))) (Qc ((.inr a :: As).map (cv (gb G))).toArray) (fun q : Nat => gb G ≤ q) := by
  obtain ⟨C1, C2, C3, C4, C5, C6, C7, C8, C9⟩ := C
  obtain ⟨h0, h1, h2⟩ := ho
  have en := a_toNat h0
  have hsh : SH (a.toNat : Int) = (ci, N) := by rw [en]; exact h2
  have he := world_at (cA := gA G) (b0 := gb G) (μ := μ) (i := a.toNat) (n := n) (by omega)
  rw [ent_obj hsh hci] at he
  rw [map_arr h0]
  refine va_runV (C := Yc.1.cls) (own := Y.1.cls) (index := idx) (As := As.map (cv (gb G))) (Ts := gT) (n := As.length) ⟨C1, C2, C3, C7, C8⟩ hM
    (cwV As.length C8 (gIn (fun w hw => ?_)) rfl rfl rfl ⟨rfl, hm.2.2⟩ hfit.1) ⟨pre_blind _ _ _ _, va_recv C9.1.1 hA.1 hc he, fun U hU hW => ⟨?_, by rw [hU]; exact hA, K0_warm hW C9.1⟩⟩ rfl (List.length_map _) hl'.1 ?_ ?_ hd hfit.2
  · unfold wsV at hw
    rcases List.mem_append.mp hw with hw | hw
    · simp only [List.mem_cons, List.not_mem_nil, or_false] at hw
      rcases hw with rfl | rfl | rfl | rfl
      · exact hlk
      · exact hi
      · exact hse
      · exact hm.2.1
    · exact ws_in hm w hw
  · rw [map_arr h0]
  · rw [List.map_append, List.map_reverse, List.map_cons, cv_ref h0]
  · rw [cat_sum]
    show 2 * 0 + st.length ≤ 8
    omega
theorem run_S {Qc : Array Value → State → Outcome → State → Prop} {p : Program} {e : Env} {s : State} {m : MethodId} {args : Array Value} {below : List Frame} {meth : Method} {c : Code} {H : Heap} {locs : List Loc} {ls : Array Slot}
    (C : Cx G Y Z p s m args meth c) (hA : AH G n μ H) (hl' : lv_has ls Y.2.2.1 (cvL (gb G) L)) (hd : decode Y.2.1 pc = .ok (.invokestatic idx, 3)) (hlk : Cond.methodLink Y.1.cls idx Yc.1 ∈ gT) (hm : MC Yc As.length) (hi : Cond.static Yc.1 ∈ gT)
    (hst : st.length ≤ 8) (hfit : fits2 Y Yc c0 s0) (hM : Met (gl G) Yc.1 (wsM Yc) (rmOf Yc) (PreC G As n μ) Qc Yc.2.2.2.2.2.2.1 Yc.2.2.2.2.2.2.2 (fun q : Nat => gb G ≤ q)) :
    va_Run p (gl G) e (rmOf Y) s m args below meth c H locs c0 s0 Yc.2.2.2.2.2.2.1 Yc.2.2.2.2.2.2.2 (F0 m pc ls ((As.reverse ++ st).map (cv (gb G)))) (st.map (cv (gb G))) (Qc (As.map (cv (gb G))).toArray) (fun q : Nat => gb G ≤ q) := by
  obtain ⟨C1, C2, C3, C4, C5, C6, C7, C8, C9⟩ := C
  have ok : ∀ w ∈ gT, w.before args s = true := C8
  refine va_runS (own := Y.1.cls) (index := idx) (As := As.map (cv (gb G))) (Ts := gT) (n := As.length) ⟨C1, C2, C3, C7, C8⟩ hM
    ⟨callB_of As.length C8 (gIn (ws_in hm)) rfl rfl rfl (ok _ hm.2.1) (ok _ hlk) hm.2.2 hfit.1, ok _ hi⟩ ⟨pre_blind _ _ _ _, fun U hU hW => ⟨rfl, by rw [hU]; exact hA, K0_warm hW C9.1⟩⟩ rfl (List.length_map _) hl'.1 ?_ ?_ hd hfit.2
  · rw [List.map_append, List.map_reverse]
  · rw [cat_sum]
    show 2 * 0 + st.length ≤ 8
    omega
theorem run_SN {Qc : Array Value → State → Outcome → State → Prop} {host : String} {p : Program} {e : Env} {s : State} {m : MethodId} {args : Array Value} {below : List Frame} {meth : Method} {c : Code} {H : Heap} {locs : List Loc} {ls : Array Slot}
    (C : Cx G Y Z p s m args meth c) (hA : AH G n μ H) (hl' : lv_has ls Y.2.2.1 (cvL (gb G) L)) (hd : decode Y.2.1 pc = .ok (.invokestatic idx, 3)) (hlk : Cond.methodLinkNest Y.1.cls idx Yc.1 host ∈ gN) (hm : MC Yc As.length) (hi : Cond.static Yc.1 ∈ gT)
    (hst : st.length ≤ 8) (hfit : fits2 Y Yc c0 s0) (hM : Met (gl G) Yc.1 (wsM Yc) (rmOf Yc) (PreC G As n μ) Qc Yc.2.2.2.2.2.2.1 Yc.2.2.2.2.2.2.2 (fun q : Nat => gb G ≤ q)) :
    va_Run p (gl G) e (rmOf Y) s m args below meth c H locs c0 s0 Yc.2.2.2.2.2.2.1 Yc.2.2.2.2.2.2.2 (F0 m pc ls ((As.reverse ++ st).map (cv (gb G)))) (st.map (cv (gb G))) (Qc (As.map (cv (gb G))).toArray) (fun q : Nat => gb G ≤ q) := by
  obtain ⟨C1, C2, C3, C4, C5, C6, C7, C8, C9⟩ := C
  have ok : ∀ w ∈ gT, w.before args s = true := C8
  refine va_runSN (own := Y.1.cls) (host := host) (index := idx) (As := As.map (cv (gb G))) (Ts := gT) (n := As.length) ⟨C1, C2, C3, C7, C8⟩ hM
    ⟨va_cnB As.length C8 (gIn (ws_in hm)) rfl rfl rfl (C9.1.2.1 _ hlk) (ok _ hm.2.1) hm.2.2 hfit.1, ok _ hi, trivial⟩ ⟨pre_blind _ _ _ _, fun U hU hW => ⟨rfl, by rw [hU]; exact hA, K0_warm hW C9.1⟩⟩ rfl (List.length_map _) hl'.1 ?_ ?_ hd hfit.2
  · rw [List.map_append, List.map_reverse]
  · rw [cat_sum]
    show 2 * 0 + st.length ≤ 8
    omega
theorem run_N {Qc : Array Value → State → Outcome → State → Prop} {a : Int} {p : Program} {e : Env} {s : State} {m : MethodId} {args : Array Value} {below : List Frame} {meth : Method} {c : Code} {H : Heap} {locs : List Loc} {ls : Array Slot}
    (C : Cx G Y Z p s m args meth c) (hA : AH G n μ H) (hl' : lv_has ls Y.2.2.1 (cvL (gb G) L)) (hd : decode Y.2.1 pc = .ok (.invokespecial idx, 3)) (hlk : Cond.methodLink Y.1.cls idx Yc.1 ∈ gT) (hm : MC Yc As.length) (hi : Cond.instanceMethod Yc.1 ∈ gT) (hn : Yc.1.name = "<init>") (hr : Yc.2.2.2.1 = none)
    (hst : st.length ≤ 8) (hfit : fits2 Y Yc c0 s0) (ha : 0 ≤ a) (hM : Met (gl G) Yc.1 (wsM Yc) (rmOf Yc) (PreC G (.inr a :: As) n μ) Qc Yc.2.2.2.2.2.2.1 Yc.2.2.2.2.2.2.2 (fun q : Nat => gb G ≤ q)) :
    va_Run p (gl G) e (rmOf Y) s m args below meth c H locs c0 s0 Yc.2.2.2.2.2.2.1 Yc.2.2.2.2.2.2.2 (F0 m pc ls ((As.reverse ++ .inr a :: st).map (cv (gb G)))) (st.map (cv (gb G))) (Qc ((.inr a :: As).map (cv (gb G))).toArray) (fun q : Nat => gb G ≤ q) := by
  obtain ⟨C1, C2, C3, C4, C5, C6, C7, C8, C9⟩ := C
  have ok : ∀ w ∈ gT, w.before args s = true := C8
  rw [map_arr ha]
  refine va_runI (own := Y.1.cls) (index := idx) (As := As.map (cv (gb G))) (Ts := gT) (n := As.length) (b := gb G + a.toNat) ⟨C1, C2, C3, C7, C8⟩ hM
    (cwI As.length C8 (gIn (ws_in hm)) (by unfold wsM; rw [hr]) rfl rfl (ok _ hm.2.1) (ok _ hlk) (ok _ hi) hn hm.2.2 hfit.1) ⟨pre_blind _ _ _ _, fun U hU hW => ⟨?_, by rw [hU]; exact hA, K0_warm hW C9.1⟩⟩ rfl (List.length_map _) hl'.1 ?_ ?_ hd hfit.2
  · rw [map_arr ha]
  · rw [List.map_append, List.map_reverse, List.map_cons, cv_ref ha]
  · rw [cat_sum]
    show 2 * 0 + st.length ≤ 8
    omega
section Behind
variable {p : Program} {e : Env} {s : State} {m : MethodId} {args : Array Value} {below : List Frame} {meth : Method} {c : Code} {H : Heap} {locs : List Loc} {ls : Array Slot} {st0 : List Value} {mc ms : Nat} {av0 : Array Value}
theorem beh_I {Q : Int → Nat → Mem → Prop} (C : Cx G Y Z p s m args meth c) (hS : va_S (fun q : Nat => gb G ≤ q) s.heap H locs) (hl : lv_has ls Y.2.2.1 (cvL (gb G) L)) (oL : okL L) (oS : okS st)
    (r : va_Run p (gl G) e (rmOf Y) s m args below meth c H locs c0 s0 mc ms (F0 m pc ls st0) (st.map (cv (gb G))) (QI G Q av0) (fun q : Nat => gb G ≤ q))
    (w : ∀ (x : Int) (n' : Nat) (ν : Mem), Q x n' ν → Wa G Y Z (c0 + mc) (s0 + ms) n' ν (pc + 3) L (.inl x :: st)) : W p (gl G) e (rmOf Y) s m args below meth c H locs c0 s0 (Z.1 below args s) (F0 m pc ls st0) := by
  refine va_calli r hS (fun q _ h => h) (fun q h => h) (fun rr u t H1 locs1 ht hvm hw hB hz hk hS1 => ?_)
  obtain ⟨rfl, hr, hq⟩ := hw
  have w := w u.1 u.2.1 u.2.2 hq p e s m args below meth c H1 locs1 ls C (by have hB : AH G u.2.1 u.2.2 t.heap := hB; rw [ht] at hB; exact hB) hS1 hl oL (okS_cons hr oS)
  exact w
theorem beh_V {Q : Nat → Mem → Prop} (C : Cx G Y Z p s m args meth c) (hS : va_S (fun q : Nat => gb G ≤ q) s.heap H locs) (hl : lv_has ls Y.2.2.1 (cvL (gb G) L)) (oL : okL L) (oS : okS st)
    (r : va_Run p (gl G) e (rmOf Y) s m args below meth c H locs c0 s0 mc ms (F0 m pc ls st0) (st.map (cv (gb G))) (QV G Q av0) (fun q : Nat => gb G ≤ q))
    (w : ∀ (n' : Nat) (ν : Mem), Q n' ν → Wa G Y Z (c0 + mc) (s0 + ms) n' ν (pc + 3) L st) : W p (gl G) e (rmOf Y) s m args below meth c H locs c0 s0 (Z.1 below args s) (F0 m pc ls st0) := by
  refine va_callv r hS (fun q _ h => h) (fun q h => h) (fun u t H1 locs1 ht hvm hw hB hz hk hS1 => ?_)
  exact w u.1 u.2 hw p e s m args below meth c H1 locs1 ls C (by have hB : AH G u.1 u.2 t.heap := hB; rw [ht] at hB; exact hB) hS1 hl oL oS
theorem beh_R {Q : Int → Nat → Mem → Prop} (C : Cx G Y Z p s m args meth c) (hS : va_S (fun q : Nat => gb G ≤ q) s.heap H locs) (hl : lv_has ls Y.2.2.1 (cvL (gb G) L)) (oL : okL L) (oS : okS st)
    (r : va_Run p (gl G) e (rmOf Y) s m args below meth c H locs c0 s0 mc ms (F0 m pc ls st0) (st.map (cv (gb G))) (QR G Q av0) (fun q : Nat => gb G ≤ q))
    (w : ∀ (x : Int) (n' : Nat) (ν : Mem), 0 ≤ x → Q x n' ν → Wa G Y Z (c0 + mc) (s0 + ms) n' ν (pc + 3) L (.inr x :: st)) : W p (gl G) e (rmOf Y) s m args below meth c H locs c0 s0 (Z.1 below args s) (F0 m pc ls st0) := by
  refine va_callr r hS (fun q _ h => h) (fun q h => h) (fun u ra t H1 locs1 ht hvm hw hB hz hk hS1 => ?_)
  obtain ⟨h0, hq⟩ := hw
  obtain ⟨rfl, hB⟩ := hB
  have w := w u.1 u.2.1 u.2.2 h0 hq p e s m args below meth c H1 locs1 ls C (by rw [ht] at hB; exact hB) hS1 hl oL (okS_cons trivial oS)
  rw [List.map_cons, cv_ref h0] at w
  exact w
end Behind
theorem c_VI {c1 s1 : Nat} {Q : Int → Nat → Mem → Prop} {ci N : Nat} {T : u_T} {a : Int} (hs : stk = As.reverse ++ .inr a :: st) (hd : decode Y.2.1 pc = .ok (.invokevirtual idx, 3)) (hlk : Cond.methodLink Y.1.cls idx Yc.1 ∈ gT) (hm : MC Yc As.length) (hi : Cond.instanceMethod Yc.1 ∈ gT) (hse : Cond.selects Yc.1.cls Yc.1 Yc.1 ∈ gT)
    (hst : st.length ≤ 8) (hfit : fits2 Y Yc c0 s0) (hc : vwCl[ci]? = some (Yc.1.cls, T, N)) (hci : ci < 12) (ho : gx G n μ → 0 ≤ a ∧ a < n ∧ SH a = (ci, N))
    (h : CI G Yc (.inr a :: As) n μ Q) (hc1 : c0 + Yc.2.2.2.2.2.2.1 = c1) (hs1 : s0 + Yc.2.2.2.2.2.2.2 = s1)
    (w : ∀ (x : Int) (n' : Nat) (ν : Mem), Q x n' ν → Wa G Y Z c1 s1 n' ν (pc + 3) L (.inl x :: st)) : Wa G Y Z c0 s0 n μ pc L stk := by
  subst hs
  subst hc1
  subst hs1
  intro p e s m args below meth c H locs ls C hA hS hl oL oS
  have o1 := okS_app oS
  exact beh_I C hS hl oL (okS_tl o1.2) (run_V C hA hl hd hlk hm hi hse hst hfit hc hci (ho hA.2.2.2) (h (okS_cons trivial (okS_rev o1.1)))) w
theorem c_VV {c1 s1 : Nat} {Q : Nat → Mem → Prop} {ci N : Nat} {T : u_T} {a : Int} (hs : stk = As.reverse ++ .inr a :: st) (hd : decode Y.2.1 pc = .ok (.invokevirtual idx, 3)) (hlk : Cond.methodLink Y.1.cls idx Yc.1 ∈ gT) (hm : MC Yc As.length) (hi : Cond.instanceMethod Yc.1 ∈ gT) (hse : Cond.selects Yc.1.cls Yc.1 Yc.1 ∈ gT)
    (hst : st.length ≤ 8) (hfit : fits2 Y Yc c0 s0) (hc : vwCl[ci]? = some (Yc.1.cls, T, N)) (hci : ci < 12) (ho : gx G n μ → 0 ≤ a ∧ a < n ∧ SH a = (ci, N))
    (h : CV G Yc (.inr a :: As) n μ Q) (hc1 : c0 + Yc.2.2.2.2.2.2.1 = c1) (hs1 : s0 + Yc.2.2.2.2.2.2.2 = s1)
    (w : ∀ (n' : Nat) (ν : Mem), Q n' ν → Wa G Y Z c1 s1 n' ν (pc + 3) L st) : Wa G Y Z c0 s0 n μ pc L stk := by
  subst hs
  subst hc1
  subst hs1
  intro p e s m args below meth c H locs ls C hA hS hl oL oS
  have o1 := okS_app oS
  exact beh_V C hS hl oL (okS_tl o1.2) (run_V C hA hl hd hlk hm hi hse hst hfit hc hci (ho hA.2.2.2) (h (okS_cons trivial (okS_rev o1.1)))) w
theorem c_VR {c1 s1 : Nat} {Q : Int → Nat → Mem → Prop} {ci N : Nat} {T : u_T} {a : Int} (hs : stk = As.reverse ++ .inr a :: st) (hd : decode Y.2.1 pc = .ok (.invokevirtual idx, 3)) (hlk : Cond.methodLink Y.1.cls idx Yc.1 ∈ gT) (hm : MC Yc As.length) (hi : Cond.instanceMethod Yc.1 ∈ gT) (hse : Cond.selects Yc.1.cls Yc.1 Yc.1 ∈ gT)
    (hst : st.length ≤ 8) (hfit : fits2 Y Yc c0 s0) (hc : vwCl[ci]? = some (Yc.1.cls, T, N)) (hci : ci < 12) (ho : gx G n μ → 0 ≤ a ∧ a < n ∧ SH a = (ci, N))
    (h : CR G Yc (.inr a :: As) n μ Q) (hc1 : c0 + Yc.2.2.2.2.2.2.1 = c1) (hs1 : s0 + Yc.2.2.2.2.2.2.2 = s1)
    (w : ∀ (x : Int) (n' : Nat) (ν : Mem), 0 ≤ x → Q x n' ν → Wa G Y Z c1 s1 n' ν (pc + 3) L (.inr x :: st)) : Wa G Y Z c0 s0 n μ pc L stk := by
  subst hs
  subst hc1
  subst hs1
  intro p e s m args below meth c H locs ls C hA hS hl oL oS
  have o1 := okS_app oS
  exact beh_R C hS hl oL (okS_tl o1.2) (run_V C hA hl hd hlk hm hi hse hst hfit hc hci (ho hA.2.2.2) (h (okS_cons trivial (okS_rev o1.1)))) w
theorem c_SI {c1 s1 : Nat} {Q : Int → Nat → Mem → Prop} (hs : stk = As.reverse ++ st) (hd : decode Y.2.1 pc = .ok (.invokestatic idx, 3)) (hlk : Cond.methodLink Y.1.cls idx Yc.1 ∈ gT) (hm : MC Yc As.length) (hi : Cond.static Yc.1 ∈ gT) (hst : st.length ≤ 8) (hfit : fits2 Y Yc c0 s0)
    (h : CI G Yc As n μ Q) (hc1 : c0 + Yc.2.2.2.2.2.2.1 = c1) (hs1 : s0 + Yc.2.2.2.2.2.2.2 = s1)
    (w : ∀ (x : Int) (n' : Nat) (ν : Mem), Q x n' ν → Wa G Y Z c1 s1 n' ν (pc + 3) L (.inl x :: st)) : Wa G Y Z c0 s0 n μ pc L stk := by
  subst hs
  subst hc1
  subst hs1
  intro p e s m args below meth c H locs ls C hA hS hl oL oS
  have o1 := okS_app oS
  exact beh_I C hS hl oL o1.2 (run_S C hA hl hd hlk hm hi hst hfit (h (okS_rev o1.1))) w
theorem c_SV {c1 s1 : Nat} {Q : Nat → Mem → Prop} (hs : stk = As.reverse ++ st) (hd : decode Y.2.1 pc = .ok (.invokestatic idx, 3)) (hlk : Cond.methodLink Y.1.cls idx Yc.1 ∈ gT) (hm : MC Yc As.length) (hi : Cond.static Yc.1 ∈ gT) (hst : st.length ≤ 8) (hfit : fits2 Y Yc c0 s0)
    (h : CV G Yc As n μ Q) (hc1 : c0 + Yc.2.2.2.2.2.2.1 = c1) (hs1 : s0 + Yc.2.2.2.2.2.2.2 = s1)
    (w : ∀ (n' : Nat) (ν : Mem), Q n' ν → Wa G Y Z c1 s1 n' ν (pc + 3) L st) : Wa G Y Z c0 s0 n μ pc L stk := by
  subst hs
  subst hc1
  subst hs1
  intro p e s m args below meth c H locs ls C hA hS hl oL oS
  have o1 := okS_app oS
  exact beh_V C hS hl oL o1.2 (run_S C hA hl hd hlk hm hi hst hfit (h (okS_rev o1.1))) w
theorem c_SNI {c1 s1 : Nat} {Q : Int → Nat → Mem → Prop} {host : String} (hs : stk = As.reverse ++ st) (hd : decode Y.2.1 pc = .ok (.invokestatic idx, 3)) (hlk : Cond.methodLinkNest Y.1.cls idx Yc.1 host ∈ gN) (hm : MC Yc As.length) (hi : Cond.static Yc.1 ∈ gT) (hst : st.length ≤ 8) (hfit : fits2 Y Yc c0 s0)
    (h : CI G Yc As n μ Q) (hc1 : c0 + Yc.2.2.2.2.2.2.1 = c1) (hs1 : s0 + Yc.2.2.2.2.2.2.2 = s1)
    (w : ∀ (x : Int) (n' : Nat) (ν : Mem), Q x n' ν → Wa G Y Z c1 s1 n' ν (pc + 3) L (.inl x :: st)) : Wa G Y Z c0 s0 n μ pc L stk := by
  subst hs
  subst hc1
  subst hs1
  intro p e s m args below meth c H locs ls C hA hS hl oL oS
  have o1 := okS_app oS
  exact beh_I C hS hl oL o1.2 (run_SN C hA hl hd hlk hm hi hst hfit (h (okS_rev o1.1))) w
theorem c_N {c1 s1 : Nat} {Q : Nat → Mem → Prop} {a : Int} (hs : stk = As.reverse ++ .inr a :: st) (hd : decode Y.2.1 pc = .ok (.invokespecial idx, 3)) (hlk : Cond.methodLink Y.1.cls idx Yc.1 ∈ gT) (hm : MC Yc As.length) (hi : Cond.instanceMethod Yc.1 ∈ gT) (hn : Yc.1.name = "<init>") (hr : Yc.2.2.2.1 = none) (hst : st.length ≤ 8) (hfit : fits2 Y Yc c0 s0) (ha : 0 ≤ a)
    (h : CV G Yc (.inr a :: As) n μ Q) (hc1 : c0 + Yc.2.2.2.2.2.2.1 = c1) (hs1 : s0 + Yc.2.2.2.2.2.2.2 = s1)
    (w : ∀ (n' : Nat) (ν : Mem), Q n' ν → Wa G Y Z c1 s1 n' ν (pc + 3) L st) : Wa G Y Z c0 s0 n μ pc L stk := by
  subst hs
  subst hc1
  subst hs1
  intro p e s m args below meth c H locs ls C hA hS hl oL oS
  have o1 := okS_app oS
  exact beh_V C hS hl oL (okS_tl o1.2) (run_N C hA hl hd hlk hm hi hn hr hst hfit ha (h (okS_cons trivial (okS_rev o1.1)))) w
end CallsA
theorem CI_mono {G : GT} {Y : MD} {As : List AV} {n : Nat} {μ : Mem} {Q Q' : Int → Nat → Mem → Prop} (h : CI G Y As n μ Q) (hQ : ∀ x n' ν, Q x n' ν → Q' x n' ν) : CI G Y As n μ Q' :=
  fun ok => MetFree.mono (h ok) (fun _ _ h => h) (fun _ _ _ _ _ h => h) (fun a st o t _ h => ⟨by obtain ⟨⟨⟨r, u, h1, ⟨h2, h3, h4⟩, h5⟩, h6⟩, -⟩ := h; exact ⟨⟨r, u, h1, ⟨h2, h3, hQ _ _ _ h4⟩, h5⟩, h6⟩, h.2⟩)
theorem CV_mono {G : GT} {Y : MD} {As : List AV} {n : Nat} {μ : Mem} {Q Q' : Nat → Mem → Prop} (h : CV G Y As n μ Q) (hQ : ∀ n' ν, Q n' ν → Q' n' ν) : CV G Y As n μ Q' :=
  fun ok => MetFree.mono (h ok) (fun _ _ h => h) (fun _ _ _ _ _ h => h) (fun a st o t _ h => ⟨by obtain ⟨⟨⟨u, h1, h4, h5⟩, h6⟩, -⟩ := h; exact ⟨⟨u, h1, hQ _ _ h4, h5⟩, h6⟩, h.2⟩)
theorem CR_mono {G : GT} {Y : MD} {As : List AV} {n : Nat} {μ : Mem} {Q Q' : Int → Nat → Mem → Prop} (h : CR G Y As n μ Q) (hQ : ∀ x n' ν, Q x n' ν → Q' x n' ν) : CR G Y As n μ Q' :=
  fun ok => MetFree.mono (h ok) (fun _ _ h => h) (fun _ _ _ _ _ h => h) (fun a st o t _ h => ⟨by obtain ⟨⟨⟨u, r, h1, ⟨h2, h4⟩, h5⟩, h6⟩, -⟩ := h; exact ⟨⟨u, r, h1, ⟨h2, hQ _ _ _ h4⟩, h5⟩, h6⟩, h.2⟩)
def setX (G : GT) (f : Nat → Mem → Prop) : GT := (G.1, G.2.1, G.2.2.1, G.2.2.2.1, f)
/-- from a contract over more knowledge, where that is at hand -/
theorem CI_gx {G : GT} {f : Nat → Mem → Prop} {Y : MD} {As : List AV} {n : Nat} {μ : Mem} {Q : Int → Nat → Mem → Prop} (hg : gx G = fun _ _ => True) (hf : f n μ) (h : CI (setX G f) Y As n μ Q) : CI G Y As n μ (fun r n' ν => Q r n' ν ∧ f n' ν) :=
  fun ok => MetFree.mono (h ok) (fun a s h => ⟨h.1, ⟨h.2.1.1, h.2.1.2.1, h.2.1.2.2.1, hf⟩, h.2.2⟩) (fun _ _ _ _ _ h => h) (fun a st o t _ h => ⟨by
    obtain ⟨⟨⟨r, u, h1, ⟨h2, h3, h4⟩, h5⟩, h6⟩, -⟩ := h
    have h5 : AH (setX G f) u.2.1 u.2.2 t.heap := h5
    exact ⟨⟨r, u, h1, ⟨h2, h3, h4, h5.2.2.2⟩, ⟨h5.1, h5.2.1, h5.2.2.1, by rw [hg]; trivial⟩⟩, h6⟩, h.2⟩)
theorem CV_gx {G : GT} {f : Nat → Mem → Prop} {Y : MD} {As : List AV} {n : Nat} {μ : Mem} {Q : Nat → Mem → Prop} (hg : gx G = fun _ _ => True) (hf : f n μ) (h : CV (setX G f) Y As n μ Q) : CV G Y As n μ (fun n' ν => Q n' ν ∧ f n' ν) :=
  fun ok => MetFree.mono (h ok) (fun a s h => ⟨h.1, ⟨h.2.1.1, h.2.1.2.1, h.2.1.2.2.1, hf⟩, h.2.2⟩) (fun _ _ _ _ _ h => h) (fun a st o t _ h => ⟨by
    obtain ⟨⟨⟨u, h1, h4, h5⟩, h6⟩, -⟩ := h
    have h5 : AH (setX G f) u.1 u.2 t.heap := h5
    exact ⟨⟨u, h1, ⟨h4, h5.2.2.2⟩, ⟨h5.1, h5.2.1, h5.2.2.1, by rw [hg]; trivial⟩⟩, h6⟩, h.2⟩)
/-- the rest of the room -/
def fitsB (Y Yc : MD) : Bool := Nat.ble (Yc.2.2.2.2.1 + 1) Y.2.2.2.2.1 && Nat.ble (8 + (Yc.2.2.1 + 11) + Yc.2.2.2.2.2.1) Y.2.2.2.2.2.1
theorem fits_of {Y Yc : MD} {c0 s0 : Nat} (h : fitsB Y Yc = true) (hc : c0 + Yc.2.2.2.2.2.2.1 ≤ Y.2.2.2.2.2.2.1) (hs : s0 + Yc.2.2.2.2.2.2.2 ≤ Y.2.2.2.2.2.2.2) : fits2 Y Yc c0 s0 := by
  unfold fitsB at h
  rw [Bool.and_eq_true] at h
  exact ⟨⟨Nat.le_of_ble_eq_true h.1, Nat.le_of_ble_eq_true h.2⟩, hc, hs⟩
section RowsE
variable {G : GT} {Y : MD} {Z : ZT} {c0 s0 n pc : Nat} {μ : Mem} {L L' : List (Nat × AV)} {st : List AV}
theorem b_istore_n {q : Fin 4} {i : Nat} {x : Int} (ks : List Nat) (hd : decode Y.2.1 pc = .ok (.istore_n q, 1)) (hi : (q : Nat) = i) (hn : i < Y.2.2.1) (hL : ks.filterMap (fun k => (putL i (.inl x) L)[k]?) = L') (w : Wa G Y Z c0 s0 n μ (pc + 1) L' st) : Wa G Y Z c0 s0 n μ pc L (.inl x :: st) := a_istore_n hd hi hn (a_sub ks hL w)
theorem b_istore {i : Nat} {x : Int} (ks : List Nat) (hd : decode Y.2.1 pc = .ok (.istore i, 2)) (hn : i < Y.2.2.1) (hL : ks.filterMap (fun k => (putL i (.inl x) L)[k]?) = L') (w : Wa G Y Z c0 s0 n μ (pc + 2) L' st) : Wa G Y Z c0 s0 n μ pc L (.inl x :: st) := a_istore hd hn (a_sub ks hL w)
theorem b_astore_n {q : Fin 4} {i : Nat} {x : Int} (ks : List Nat) (hd : decode Y.2.1 pc = .ok (.astore_n q, 1)) (hi : (q : Nat) = i) (hn : i < Y.2.2.1) (hL : ks.filterMap (fun k => (putL i (.inr x) L)[k]?) = L') (w : Wa G Y Z c0 s0 n μ (pc + 1) L' st) : Wa G Y Z c0 s0 n μ pc L (.inr x :: st) := a_astore_n hd hi hn (a_sub ks hL w)
theorem b_astore {i : Nat} {x : Int} (ks : List Nat) (hd : decode Y.2.1 pc = .ok (.astore i, 2)) (hn : i < Y.2.2.1) (hL : ks.filterMap (fun k => (putL i (.inr x) L)[k]?) = L') (w : Wa G Y Z c0 s0 n μ (pc + 2) L' st) : Wa G Y Z c0 s0 n μ pc L (.inr x :: st) := a_astore hd hn (a_sub ks hL w)
theorem b_iinc {i k : Nat} {d x : Int} (ks : List Nat) (hd : decode Y.2.1 pc = .ok (.iinc i d, 3)) (hk : L[k]? = some (i, .inl x)) (hr : inR (x + d)) (hn : i < Y.2.2.1) (hL : ks.filterMap (fun k => (putL i (.inl (x + d)) L)[k]?) = L') (w : Wa G Y Z c0 s0 n μ (pc + 3) L' st) : Wa G Y Z c0 s0 n μ pc L st := a_iinc hd hk hr hn (a_sub ks hL w)
end RowsE
end
