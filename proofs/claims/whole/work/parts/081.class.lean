-- 081.class: decode rows and blocks (by program, wip/gen)
theorem dX3_reset_0 : decode cX3_reset 0 = .ok (.aload_n 0, 1) := by decide +kernel
theorem dX3_reset_1 : decode cX3_reset 1 = .ok (.iconst 0, 1) := by decide +kernel
theorem dX3_reset_2 : decode cX3_reset 2 = .ok (.putfield 24, 3) := by decide +kernel
theorem dX3_reset_5 : decode cX3_reset 5 = .ok (.aload_n 0, 1) := by decide +kernel
theorem dX3_reset_6 : decode cX3_reset 6 = .ok (.iconst 2, 1) := by decide +kernel
theorem dX3_reset_7 : decode cX3_reset 7 = .ok (.putfield 28, 3) := by decide +kernel
theorem dX3_reset_10 : decode cX3_reset 10 = .ok (.return_, 1) := by decide +kernel
theorem dX3_hasNode_0 : decode cX3_hasNode 0 = .ok (.iload_n 1, 1) := by decide +kernel
theorem dX3_hasNode_1 : decode cX3_hasNode 1 = .ok (.ifCond .lt 15, 3) := by decide +kernel
theorem dX3_hasNode_4 : decode cX3_hasNode 4 = .ok (.iload_n 1, 1) := by decide +kernel
theorem dX3_hasNode_5 : decode cX3_hasNode 5 = .ok (.aload_n 0, 1) := by decide +kernel
theorem dX3_hasNode_6 : decode cX3_hasNode 6 = .ok (.getfield 28, 3) := by decide +kernel
theorem dX3_hasNode_9 : decode cX3_hasNode 9 = .ok (.if_icmp .ge 7, 3) := by decide +kernel
theorem dX3_hasNode_12 : decode cX3_hasNode 12 = .ok (.iconst 1, 1) := by decide +kernel
theorem dX3_hasNode_13 : decode cX3_hasNode 13 = .ok (.goto 4, 3) := by decide +kernel
theorem dX3_hasNode_16 : decode cX3_hasNode 16 = .ok (.iconst 0, 1) := by decide +kernel
theorem dX3_hasNode_17 : decode cX3_hasNode 17 = .ok (.ireturn, 1) := by decide +kernel
theorem dX3_hasContact_0 : decode cX3_hasContact 0 = .ok (.iload_n 1, 1) := by decide +kernel
theorem dX3_hasContact_1 : decode cX3_hasContact 1 = .ok (.ifCond .lt 15, 3) := by decide +kernel
theorem dX3_hasContact_4 : decode cX3_hasContact 4 = .ok (.iload_n 1, 1) := by decide +kernel
theorem dX3_hasContact_5 : decode cX3_hasContact 5 = .ok (.aload_n 0, 1) := by decide +kernel
theorem dX3_hasContact_6 : decode cX3_hasContact 6 = .ok (.getfield 24, 3) := by decide +kernel
theorem dX3_hasContact_9 : decode cX3_hasContact 9 = .ok (.if_icmp .ge 7, 3) := by decide +kernel
theorem dX3_hasContact_12 : decode cX3_hasContact 12 = .ok (.iconst 1, 1) := by decide +kernel
theorem dX3_hasContact_13 : decode cX3_hasContact 13 = .ok (.goto 4, 3) := by decide +kernel
theorem dX3_hasContact_16 : decode cX3_hasContact 16 = .ok (.iconst 0, 1) := by decide +kernel
theorem dX3_hasContact_17 : decode cX3_hasContact 17 = .ok (.ireturn, 1) := by decide +kernel
theorem dX3_hasRoom_0 : decode cX3_hasRoom 0 = .ok (.aload_n 0, 1) := by decide +kernel
theorem dX3_hasRoom_1 : decode cX3_hasRoom 1 = .ok (.getfield 24, 3) := by decide +kernel
theorem dX3_hasRoom_4 : decode cX3_hasRoom 4 = .ok (.aload_n 0, 1) := by decide +kernel
theorem dX3_hasRoom_5 : decode cX3_hasRoom 5 = .ok (.getfield 20, 3) := by decide +kernel
theorem dX3_hasRoom_8 : decode cX3_hasRoom 8 = .ok (.arraylength, 1) := by decide +kernel
theorem dX3_hasRoom_9 : decode cX3_hasRoom 9 = .ok (.if_icmp .ge 7, 3) := by decide +kernel
theorem dX3_hasRoom_12 : decode cX3_hasRoom 12 = .ok (.iconst 1, 1) := by decide +kernel
theorem dX3_hasRoom_13 : decode cX3_hasRoom 13 = .ok (.goto 4, 3) := by decide +kernel
theorem dX3_hasRoom_16 : decode cX3_hasRoom 16 = .ok (.iconst 0, 1) := by decide +kernel
theorem dX3_hasRoom_17 : decode cX3_hasRoom 17 = .ok (.ireturn, 1) := by decide +kernel
theorem dX3_addContact_0 : decode cX3_addContact 0 = .ok (.aload_n 0, 1) := by decide +kernel
theorem dX3_addContact_1 : decode cX3_addContact 1 = .ok (.getfield 24, 3) := by decide +kernel
theorem dX3_addContact_4 : decode cX3_addContact 4 = .ok (.ifCond .lt 35, 3) := by decide +kernel
theorem dX3_addContact_7 : decode cX3_addContact 7 = .ok (.aload_n 0, 1) := by decide +kernel
theorem dX3_addContact_8 : decode cX3_addContact 8 = .ok (.getfield 24, 3) := by decide +kernel
theorem dX3_addContact_11 : decode cX3_addContact 11 = .ok (.aload_n 0, 1) := by decide +kernel
theorem dX3_addContact_12 : decode cX3_addContact 12 = .ok (.getfield 20, 3) := by decide +kernel
theorem dX3_addContact_15 : decode cX3_addContact 15 = .ok (.arraylength, 1) := by decide +kernel
theorem dX3_addContact_16 : decode cX3_addContact 16 = .ok (.if_icmp .ge 23, 3) := by decide +kernel
theorem dX3_addContact_19 : decode cX3_addContact 19 = .ok (.aload_n 0, 1) := by decide +kernel
theorem dX3_addContact_20 : decode cX3_addContact 20 = .ok (.getfield 20, 3) := by decide +kernel
theorem dX3_addContact_23 : decode cX3_addContact 23 = .ok (.aload_n 0, 1) := by decide +kernel
theorem dX3_addContact_24 : decode cX3_addContact 24 = .ok (.getfield 24, 3) := by decide +kernel
theorem dX3_addContact_27 : decode cX3_addContact 27 = .ok (.aload_n 1, 1) := by decide +kernel
theorem dX3_addContact_28 : decode cX3_addContact 28 = .ok (.aastore, 1) := by decide +kernel
theorem dX3_addContact_29 : decode cX3_addContact 29 = .ok (.aload_n 0, 1) := by decide +kernel
theorem dX3_addContact_30 : decode cX3_addContact 30 = .ok (.dup, 1) := by decide +kernel
theorem dX3_addContact_31 : decode cX3_addContact 31 = .ok (.getfield 24, 3) := by decide +kernel
theorem dX3_addContact_34 : decode cX3_addContact 34 = .ok (.iconst 1, 1) := by decide +kernel
theorem dX3_addContact_35 : decode cX3_addContact 35 = .ok (.iadd, 1) := by decide +kernel
theorem dX3_addContact_36 : decode cX3_addContact 36 = .ok (.putfield 24, 3) := by decide +kernel
theorem dX3_addContact_39 : decode cX3_addContact 39 = .ok (.return_, 1) := by decide +kernel
theorem dX3_contactAt_0 : decode cX3_contactAt 0 = .ok (.iload_n 1, 1) := by decide +kernel
theorem dX3_contactAt_1 : decode cX3_contactAt 1 = .ok (.ifCond .lt 20, 3) := by decide +kernel
theorem dX3_contactAt_4 : decode cX3_contactAt 4 = .ok (.iload_n 1, 1) := by decide +kernel
theorem dX3_contactAt_5 : decode cX3_contactAt 5 = .ok (.aload_n 0, 1) := by decide +kernel
theorem dX3_contactAt_6 : decode cX3_contactAt 6 = .ok (.getfield 24, 3) := by decide +kernel
theorem dX3_contactAt_9 : decode cX3_contactAt 9 = .ok (.if_icmp .ge 12, 3) := by decide +kernel
theorem dX3_contactAt_12 : decode cX3_contactAt 12 = .ok (.iload_n 1, 1) := by decide +kernel
theorem dX3_contactAt_13 : decode cX3_contactAt 13 = .ok (.aload_n 0, 1) := by decide +kernel
theorem dX3_contactAt_14 : decode cX3_contactAt 14 = .ok (.getfield 20, 3) := by decide +kernel
theorem dX3_contactAt_17 : decode cX3_contactAt 17 = .ok (.arraylength, 1) := by decide +kernel
theorem dX3_contactAt_18 : decode cX3_contactAt 18 = .ok (.if_icmp .lt 8, 3) := by decide +kernel
theorem dX3_contactAt_21 : decode cX3_contactAt 21 = .ok (.aload_n 0, 1) := by decide +kernel
theorem dX3_contactAt_22 : decode cX3_contactAt 22 = .ok (.getfield 14, 3) := by decide +kernel
theorem dX3_contactAt_25 : decode cX3_contactAt 25 = .ok (.areturn, 1) := by decide +kernel
theorem dX3_contactAt_26 : decode cX3_contactAt 26 = .ok (.aload_n 0, 1) := by decide +kernel
theorem dX3_contactAt_27 : decode cX3_contactAt 27 = .ok (.getfield 20, 3) := by decide +kernel
theorem dX3_contactAt_30 : decode cX3_contactAt 30 = .ok (.iload_n 1, 1) := by decide +kernel
theorem dX3_contactAt_31 : decode cX3_contactAt 31 = .ok (.aaload, 1) := by decide +kernel
theorem dX3_contactAt_32 : decode cX3_contactAt 32 = .ok (.astore_n 2, 1) := by decide +kernel
theorem dX3_contactAt_33 : decode cX3_contactAt 33 = .ok (.aload_n 2, 1) := by decide +kernel
theorem dX3_contactAt_34 : decode cX3_contactAt 34 = .ok (.ifnonnull 10, 3) := by decide +kernel
theorem dX3_contactAt_37 : decode cX3_contactAt 37 = .ok (.aload_n 0, 1) := by decide +kernel
theorem dX3_contactAt_38 : decode cX3_contactAt 38 = .ok (.getfield 14, 3) := by decide +kernel
theorem dX3_contactAt_41 : decode cX3_contactAt 41 = .ok (.goto 4, 3) := by decide +kernel
theorem dX3_contactAt_44 : decode cX3_contactAt 44 = .ok (.aload_n 2, 1) := by decide +kernel
theorem dX3_contactAt_45 : decode cX3_contactAt 45 = .ok (.areturn, 1) := by decide +kernel
theorem dX3_copyFrom_0 : decode cX3_copyFrom 0 = .ok (.aload_n 0, 1) := by decide +kernel
theorem dX3_copyFrom_1 : decode cX3_copyFrom 1 = .ok (.aload_n 1, 1) := by decide +kernel
theorem dX3_copyFrom_2 : decode cX3_copyFrom 2 = .ok (.getfield 28, 3) := by decide +kernel
theorem dX3_copyFrom_5 : decode cX3_copyFrom 5 = .ok (.putfield 28, 3) := by decide +kernel
theorem dX3_copyFrom_8 : decode cX3_copyFrom 8 = .ok (.aload_n 0, 1) := by decide +kernel
theorem dX3_copyFrom_9 : decode cX3_copyFrom 9 = .ok (.iconst 0, 1) := by decide +kernel
theorem dX3_copyFrom_10 : decode cX3_copyFrom 10 = .ok (.putfield 24, 3) := by decide +kernel
theorem dX3_copyFrom_13 : decode cX3_copyFrom 13 = .ok (.iconst 0, 1) := by decide +kernel
theorem dX3_copyFrom_14 : decode cX3_copyFrom 14 = .ok (.istore_n 2, 1) := by decide +kernel
theorem dX3_copyFrom_15 : decode cX3_copyFrom 15 = .ok (.iload_n 2, 1) := by decide +kernel
theorem dX3_copyFrom_16 : decode cX3_copyFrom 16 = .ok (.aload_n 1, 1) := by decide +kernel
theorem dX3_copyFrom_17 : decode cX3_copyFrom 17 = .ok (.getfield 24, 3) := by decide +kernel
theorem dX3_copyFrom_20 : decode cX3_copyFrom 20 = .ok (.if_icmp .ge 18, 3) := by decide +kernel
theorem dX3_copyFrom_23 : decode cX3_copyFrom 23 = .ok (.aload_n 0, 1) := by decide +kernel
theorem dX3_copyFrom_24 : decode cX3_copyFrom 24 = .ok (.aload_n 1, 1) := by decide +kernel
theorem dX3_copyFrom_25 : decode cX3_copyFrom 25 = .ok (.iload_n 2, 1) := by decide +kernel
theorem dX3_copyFrom_26 : decode cX3_copyFrom 26 = .ok (.invokevirtual 31, 3) := by decide +kernel
theorem dX3_copyFrom_29 : decode cX3_copyFrom 29 = .ok (.invokevirtual 35, 3) := by decide +kernel
theorem dX3_copyFrom_32 : decode cX3_copyFrom 32 = .ok (.iinc 2 1, 3) := by decide +kernel
theorem dX3_copyFrom_35 : decode cX3_copyFrom 35 = .ok (.goto (-20), 3) := by decide +kernel
theorem dX3_copyFrom_38 : decode cX3_copyFrom 38 = .ok (.return_, 1) := by decide +kernel
theorem dX4_readPlan_0 : decode cX4_readPlan 0 = .ok (.aload_n 0, 1) := by decide +kernel
theorem dX4_readPlan_1 : decode cX4_readPlan 1 = .ok (.getfield 18, 3) := by decide +kernel
theorem dX4_readPlan_4 : decode cX4_readPlan 4 = .ok (.invokevirtual 29, 3) := by decide +kernel
theorem dX4_readPlan_7 : decode cX4_readPlan 7 = .ok (.aload_n 0, 1) := by decide +kernel
theorem dX4_readPlan_8 : decode cX4_readPlan 8 = .ok (.iconst 0, 1) := by decide +kernel
theorem dX4_readPlan_9 : decode cX4_readPlan 9 = .ok (.putfield 22, 3) := by decide +kernel
theorem dX4_readPlan_12 : decode cX4_readPlan 12 = .ok (.aload_n 0, 1) := by decide +kernel
theorem dX4_readPlan_13 : decode cX4_readPlan 13 = .ok (.iconst (-1), 1) := by decide +kernel
theorem dX4_readPlan_14 : decode cX4_readPlan 14 = .ok (.putfield 26, 3) := by decide +kernel
theorem dX4_readPlan_17 : decode cX4_readPlan 17 = .ok (.iconst 0, 1) := by decide +kernel
theorem dX4_readPlan_18 : decode cX4_readPlan 18 = .ok (.istore_n 1, 1) := by decide +kernel
theorem dX4_readPlan_19 : decode cX4_readPlan 19 = .ok (.aload_n 0, 1) := by decide +kernel
theorem dX4_readPlan_20 : decode cX4_readPlan 20 = .ok (.invokevirtual 32, 3) := by decide +kernel
theorem dX4_readPlan_23 : decode cX4_readPlan 23 = .ok (.iload_n 1, 1) := by decide +kernel
theorem dX4_readPlan_24 : decode cX4_readPlan 24 = .ok (.sipush 150, 3) := by decide +kernel
theorem dX4_readPlan_27 : decode cX4_readPlan 27 = .ok (.if_icmp .ge 48, 3) := by decide +kernel
theorem dX4_readPlan_30 : decode cX4_readPlan 30 = .ok (.aload_n 0, 1) := by decide +kernel
theorem dX4_readPlan_31 : decode cX4_readPlan 31 = .ok (.getfield 22, 3) := by decide +kernel
theorem dX4_readPlan_34 : decode cX4_readPlan 34 = .ok (.aload_n 0, 1) := by decide +kernel
theorem dX4_readPlan_35 : decode cX4_readPlan 35 = .ok (.getfield 9, 3) := by decide +kernel
theorem dX4_readPlan_38 : decode cX4_readPlan 38 = .ok (.getfield 35, 3) := by decide +kernel
theorem dX4_readPlan_41 : decode cX4_readPlan 41 = .ok (.if_icmp .ge 34, 3) := by decide +kernel
theorem dX4_readPlan_44 : decode cX4_readPlan 44 = .ok (.aload_n 0, 1) := by decide +kernel
theorem dX4_readPlan_45 : decode cX4_readPlan 45 = .ok (.getfield 26, 3) := by decide +kernel
theorem dX4_readPlan_48 : decode cX4_readPlan 48 = .ok (.iconst (-1), 1) := by decide +kernel
theorem dX4_readPlan_49 : decode cX4_readPlan 49 = .ok (.if_icmp .ne 26, 3) := by decide +kernel
theorem dX4_readPlan_52 : decode cX4_readPlan 52 = .ok (.aload_n 0, 1) := by decide +kernel
theorem dX4_readPlan_53 : decode cX4_readPlan 53 = .ok (.iload_n 1, 1) := by decide +kernel
theorem dX4_readPlan_54 : decode cX4_readPlan 54 = .ok (.ifCond .ne 7, 3) := by decide +kernel
theorem dX4_readPlan_57 : decode cX4_readPlan 57 = .ok (.iconst 1, 1) := by decide +kernel
theorem dX4_readPlan_58 : decode cX4_readPlan 58 = .ok (.goto 4, 3) := by decide +kernel
theorem dX4_readPlan_61 : decode cX4_readPlan 61 = .ok (.iconst 0, 1) := by decide +kernel
theorem dX4_readPlan_62 : decode cX4_readPlan 62 = .ok (.invokevirtual 40, 3) := by decide +kernel
theorem dX4_readPlan_65 : decode cX4_readPlan 65 = .ok (.iinc 1 1, 3) := by decide +kernel
theorem dX4_readPlan_68 : decode cX4_readPlan 68 = .ok (.aload_n 0, 1) := by decide +kernel
theorem dX4_readPlan_69 : decode cX4_readPlan 69 = .ok (.invokevirtual 32, 3) := by decide +kernel
theorem dX4_readPlan_72 : decode cX4_readPlan 72 = .ok (.goto (-49), 3) := by decide +kernel
theorem dX4_readPlan_75 : decode cX4_readPlan 75 = .ok (.aload_n 0, 1) := by decide +kernel
theorem dX4_readPlan_76 : decode cX4_readPlan 76 = .ok (.getfield 26, 3) := by decide +kernel
theorem dX4_readPlan_79 : decode cX4_readPlan 79 = .ok (.iconst (-1), 1) := by decide +kernel
theorem dX4_readPlan_80 : decode cX4_readPlan 80 = .ok (.if_icmp .ne 7, 3) := by decide +kernel
theorem dX4_readPlan_83 : decode cX4_readPlan 83 = .ok (.iload_n 1, 1) := by decide +kernel
theorem dX4_readPlan_84 : decode cX4_readPlan 84 = .ok (.goto 10, 3) := by decide +kernel
theorem dX4_readPlan_87 : decode cX4_readPlan 87 = .ok (.bipush (-10), 2) := by decide +kernel
theorem dX4_readPlan_89 : decode cX4_readPlan 89 = .ok (.aload_n 0, 1) := by decide +kernel
theorem dX4_readPlan_90 : decode cX4_readPlan 90 = .ok (.getfield 26, 3) := by decide +kernel
theorem dX4_readPlan_93 : decode cX4_readPlan 93 = .ok (.isub, 1) := by decide +kernel
theorem dX4_readPlan_94 : decode cX4_readPlan 94 = .ok (.ireturn, 1) := by decide +kernel
theorem dX4_readItem_0 : decode cX4_readItem 0 = .ok (.aload_n 0, 1) := by decide +kernel
theorem dX4_readItem_1 : decode cX4_readItem 1 = .ok (.getfield 9, 3) := by decide +kernel
theorem dX4_readItem_4 : decode cX4_readItem 4 = .ok (.aload_n 0, 1) := by decide +kernel
theorem dX4_readItem_5 : decode cX4_readItem 5 = .ok (.getfield 22, 3) := by decide +kernel
theorem dX4_readItem_8 : decode cX4_readItem 8 = .ok (.invokevirtual 44, 3) := by decide +kernel
theorem dX4_readItem_11 : decode cX4_readItem 11 = .ok (.istore_n 2, 1) := by decide +kernel
theorem dX4_readItem_12 : decode cX4_readItem 12 = .ok (.iload_n 2, 1) := by decide +kernel
theorem dX4_readItem_13 : decode cX4_readItem 13 = .ok (.bipush 110, 2) := by decide +kernel
theorem dX4_readItem_15 : decode cX4_readItem 15 = .ok (.if_icmp .ne 24, 3) := by decide +kernel
theorem dX4_readItem_18 : decode cX4_readItem 18 = .ok (.iload_n 1, 1) := by decide +kernel
theorem dX4_readItem_19 : decode cX4_readItem 19 = .ok (.ifCond .eq 20, 3) := by decide +kernel
theorem dX4_readItem_22 : decode cX4_readItem 22 = .ok (.aload_n 0, 1) := by decide +kernel
theorem dX4_readItem_23 : decode cX4_readItem 23 = .ok (.dup, 1) := by decide +kernel
theorem dX4_readItem_24 : decode cX4_readItem 24 = .ok (.getfield 22, 3) := by decide +kernel
theorem dX4_readItem_27 : decode cX4_readItem 27 = .ok (.iconst 1, 1) := by decide +kernel
theorem dX4_readItem_28 : decode cX4_readItem 28 = .ok (.iadd, 1) := by decide +kernel
theorem dX4_readItem_29 : decode cX4_readItem 29 = .ok (.putfield 22, 3) := by decide +kernel
theorem dX4_readItem_32 : decode cX4_readItem 32 = .ok (.aload_n 0, 1) := by decide +kernel
theorem dX4_readItem_33 : decode cX4_readItem 33 = .ok (.invokevirtual 48, 3) := by decide +kernel
theorem dX4_readItem_36 : decode cX4_readItem 36 = .ok (.goto 44, 3) := by decide +kernel
theorem dX4_readItem_39 : decode cX4_readItem 39 = .ok (.iload_n 2, 1) := by decide +kernel
theorem dX4_readItem_40 : decode cX4_readItem 40 = .ok (.bipush 99, 2) := by decide +kernel
theorem dX4_readItem_42 : decode cX4_readItem 42 = .ok (.if_icmp .ne 30, 3) := by decide +kernel
theorem dX4_readItem_45 : decode cX4_readItem 45 = .ok (.aload_n 0, 1) := by decide +kernel
theorem dX4_readItem_46 : decode cX4_readItem 46 = .ok (.getfield 18, 3) := by decide +kernel
theorem dX4_readItem_49 : decode cX4_readItem 49 = .ok (.invokevirtual 51, 3) := by decide +kernel
theorem dX4_readItem_52 : decode cX4_readItem 52 = .ok (.ifCond .eq 20, 3) := by decide +kernel
theorem dX4_readItem_55 : decode cX4_readItem 55 = .ok (.aload_n 0, 1) := by decide +kernel
theorem dX4_readItem_56 : decode cX4_readItem 56 = .ok (.dup, 1) := by decide +kernel
theorem dX4_readItem_57 : decode cX4_readItem 57 = .ok (.getfield 22, 3) := by decide +kernel
theorem dX4_readItem_60 : decode cX4_readItem 60 = .ok (.iconst 1, 1) := by decide +kernel
theorem dX4_readItem_61 : decode cX4_readItem 61 = .ok (.iadd, 1) := by decide +kernel
theorem dX4_readItem_62 : decode cX4_readItem 62 = .ok (.putfield 22, 3) := by decide +kernel
theorem dX4_readItem_65 : decode cX4_readItem 65 = .ok (.aload_n 0, 1) := by decide +kernel
theorem dX4_readItem_66 : decode cX4_readItem 66 = .ok (.invokevirtual 55, 3) := by decide +kernel
theorem dX4_readItem_69 : decode cX4_readItem 69 = .ok (.goto 11, 3) := by decide +kernel
theorem dX4_readItem_72 : decode cX4_readItem 72 = .ok (.aload_n 0, 1) := by decide +kernel
theorem dX4_readItem_73 : decode cX4_readItem 73 = .ok (.aload_n 0, 1) := by decide +kernel
theorem dX4_readItem_74 : decode cX4_readItem 74 = .ok (.getfield 22, 3) := by decide +kernel
theorem dX4_readItem_77 : decode cX4_readItem 77 = .ok (.invokevirtual 58, 3) := by decide +kernel
theorem dX4_readItem_80 : decode cX4_readItem 80 = .ok (.return_, 1) := by decide +kernel
theorem dX4_readNodes_0 : decode cX4_readNodes 0 = .ok (.aload_n 0, 1) := by decide +kernel
theorem dX4_readNodes_1 : decode cX4_readNodes 1 = .ok (.iconst 2, 1) := by decide +kernel
theorem dX4_readNodes_2 : decode cX4_readNodes 2 = .ok (.bipush 6, 2) := by decide +kernel
theorem dX4_readNodes_4 : decode cX4_readNodes 4 = .ok (.iconst (-1), 1) := by decide +kernel
theorem dX4_readNodes_5 : decode cX4_readNodes 5 = .ok (.invokevirtual 62, 3) := by decide +kernel
theorem dX4_readNodes_8 : decode cX4_readNodes 8 = .ok (.istore_n 1, 1) := by decide +kernel
theorem dX4_readNodes_9 : decode cX4_readNodes 9 = .ok (.aload_n 0, 1) := by decide +kernel
theorem dX4_readNodes_10 : decode cX4_readNodes 10 = .ok (.invokevirtual 66, 3) := by decide +kernel
theorem dX4_readNodes_13 : decode cX4_readNodes 13 = .ok (.aload_n 0, 1) := by decide +kernel
theorem dX4_readNodes_14 : decode cX4_readNodes 14 = .ok (.getfield 26, 3) := by decide +kernel
theorem dX4_readNodes_17 : decode cX4_readNodes 17 = .ok (.iconst (-1), 1) := by decide +kernel
theorem dX4_readNodes_18 : decode cX4_readNodes 18 = .ok (.if_icmp .ne 11, 3) := by decide +kernel
theorem dX4_readNodes_21 : decode cX4_readNodes 21 = .ok (.aload_n 0, 1) := by decide +kernel
theorem dX4_readNodes_22 : decode cX4_readNodes 22 = .ok (.getfield 18, 3) := by decide +kernel
theorem dX4_readNodes_25 : decode cX4_readNodes 25 = .ok (.iload_n 1, 1) := by decide +kernel
theorem dX4_readNodes_26 : decode cX4_readNodes 26 = .ok (.putfield 69, 3) := by decide +kernel
theorem dX4_readNodes_29 : decode cX4_readNodes 29 = .ok (.return_, 1) := by decide +kernel
theorem dX4_readContact_0 : decode cX4_readContact 0 = .ok (.aload_n 0, 1) := by decide +kernel
theorem dX4_readContact_1 : decode cX4_readContact 1 = .ok (.iconst 0, 1) := by decide +kernel
theorem dX4_readContact_2 : decode cX4_readContact 2 = .ok (.aload_n 0, 1) := by decide +kernel
theorem dX4_readContact_3 : decode cX4_readContact 3 = .ok (.getfield 18, 3) := by decide +kernel
theorem dX4_readContact_6 : decode cX4_readContact 6 = .ok (.getfield 69, 3) := by decide +kernel
theorem dX4_readContact_9 : decode cX4_readContact 9 = .ok (.iconst 1, 1) := by decide +kernel
theorem dX4_readContact_10 : decode cX4_readContact 10 = .ok (.isub, 1) := by decide +kernel
theorem dX4_readContact_11 : decode cX4_readContact 11 = .ok (.iconst (-1), 1) := by decide +kernel
theorem dX4_readContact_12 : decode cX4_readContact 12 = .ok (.invokevirtual 62, 3) := by decide +kernel
theorem dX4_readContact_15 : decode cX4_readContact 15 = .ok (.istore_n 1, 1) := by decide +kernel
theorem dX4_readContact_16 : decode cX4_readContact 16 = .ok (.aload_n 0, 1) := by decide +kernel
theorem dX4_readContact_17 : decode cX4_readContact 17 = .ok (.iconst 0, 1) := by decide +kernel
theorem dX4_readContact_18 : decode cX4_readContact 18 = .ok (.aload_n 0, 1) := by decide +kernel
theorem dX4_readContact_19 : decode cX4_readContact 19 = .ok (.getfield 18, 3) := by decide +kernel
theorem dX4_readContact_22 : decode cX4_readContact 22 = .ok (.getfield 69, 3) := by decide +kernel
theorem dX4_readContact_25 : decode cX4_readContact 25 = .ok (.iconst 1, 1) := by decide +kernel
theorem dX4_readContact_26 : decode cX4_readContact 26 = .ok (.isub, 1) := by decide +kernel
theorem dX4_readContact_27 : decode cX4_readContact 27 = .ok (.iload_n 1, 1) := by decide +kernel
theorem dX4_readContact_28 : decode cX4_readContact 28 = .ok (.invokevirtual 62, 3) := by decide +kernel
theorem dX4_readContact_31 : decode cX4_readContact 31 = .ok (.istore_n 2, 1) := by decide +kernel
theorem dX4_readContact_32 : decode cX4_readContact 32 = .ok (.aload_n 0, 1) := by decide +kernel
theorem dX4_readContact_33 : decode cX4_readContact 33 = .ok (.iconst 0, 1) := by decide +kernel
theorem dX4_readContact_34 : decode cX4_readContact 34 = .ok (.bipush 98, 2) := by decide +kernel
theorem dX4_readContact_36 : decode cX4_readContact 36 = .ok (.iconst (-1), 1) := by decide +kernel
theorem dX4_readContact_37 : decode cX4_readContact 37 = .ok (.invokevirtual 62, 3) := by decide +kernel
theorem dX4_readContact_40 : decode cX4_readContact 40 = .ok (.istore_n 3, 1) := by decide +kernel
theorem dX4_readContact_41 : decode cX4_readContact 41 = .ok (.aload_n 0, 1) := by decide +kernel
theorem dX4_readContact_42 : decode cX4_readContact 42 = .ok (.iload_n 3, 1) := by decide +kernel
theorem dX4_readContact_43 : decode cX4_readContact 43 = .ok (.iconst 1, 1) := by decide +kernel
theorem dX4_readContact_44 : decode cX4_readContact 44 = .ok (.iadd, 1) := by decide +kernel
theorem dX4_readContact_45 : decode cX4_readContact 45 = .ok (.bipush 99, 2) := by decide +kernel
theorem dX4_readContact_47 : decode cX4_readContact 47 = .ok (.iconst (-1), 1) := by decide +kernel
theorem dX4_readContact_48 : decode cX4_readContact 48 = .ok (.invokevirtual 62, 3) := by decide +kernel
theorem dX4_readContact_51 : decode cX4_readContact 51 = .ok (.istore 4, 2) := by decide +kernel
theorem dX4_readContact_53 : decode cX4_readContact 53 = .ok (.aload_n 0, 1) := by decide +kernel
theorem dX4_readContact_54 : decode cX4_readContact 54 = .ok (.iconst 1, 1) := by decide +kernel
theorem dX4_readContact_55 : decode cX4_readContact 55 = .ok (.bipush 9, 2) := by decide +kernel
theorem dX4_readContact_57 : decode cX4_readContact 57 = .ok (.iconst (-1), 1) := by decide +kernel
theorem dX4_readContact_58 : decode cX4_readContact 58 = .ok (.invokevirtual 62, 3) := by decide +kernel
theorem dX4_readContact_61 : decode cX4_readContact 61 = .ok (.istore 5, 2) := by decide +kernel
theorem dX4_readContact_63 : decode cX4_readContact 63 = .ok (.aload_n 0, 1) := by decide +kernel
theorem dX4_readContact_64 : decode cX4_readContact 64 = .ok (.iconst 0, 1) := by decide +kernel
theorem dX4_readContact_65 : decode cX4_readContact 65 = .ok (.bipush 9, 2) := by decide +kernel
theorem dX4_readContact_67 : decode cX4_readContact 67 = .ok (.iconst (-1), 1) := by decide +kernel
theorem dX4_readContact_68 : decode cX4_readContact 68 = .ok (.invokevirtual 62, 3) := by decide +kernel
theorem dX4_readContact_71 : decode cX4_readContact 71 = .ok (.istore 6, 2) := by decide +kernel
theorem dX4_readContact_73 : decode cX4_readContact 73 = .ok (.aload_n 0, 1) := by decide +kernel
theorem dX4_readContact_74 : decode cX4_readContact 74 = .ok (.invokevirtual 66, 3) := by decide +kernel
theorem dX4_readContact_77 : decode cX4_readContact 77 = .ok (.aload_n 0, 1) := by decide +kernel
theorem dX4_readContact_78 : decode cX4_readContact 78 = .ok (.getfield 26, 3) := by decide +kernel
theorem dX4_readContact_81 : decode cX4_readContact 81 = .ok (.iconst (-1), 1) := by decide +kernel
theorem dX4_readContact_82 : decode cX4_readContact 82 = .ok (.if_icmp .ne 26, 3) := by decide +kernel
theorem dX4_readContact_85 : decode cX4_readContact 85 = .ok (.aload_n 0, 1) := by decide +kernel
theorem dX4_readContact_86 : decode cX4_readContact 86 = .ok (.getfield 18, 3) := by decide +kernel
theorem dX4_readContact_89 : decode cX4_readContact 89 = .ok (.new 72, 3) := by decide +kernel
theorem dX4_readContact_92 : decode cX4_readContact 92 = .ok (.dup, 1) := by decide +kernel
theorem dX4_readContact_93 : decode cX4_readContact 93 = .ok (.iload_n 1, 1) := by decide +kernel
theorem dX4_readContact_94 : decode cX4_readContact 94 = .ok (.iload_n 2, 1) := by decide +kernel
theorem dX4_readContact_95 : decode cX4_readContact 95 = .ok (.iload_n 3, 1) := by decide +kernel
theorem dX4_readContact_96 : decode cX4_readContact 96 = .ok (.iload 4, 2) := by decide +kernel
theorem dX4_readContact_98 : decode cX4_readContact 98 = .ok (.iload 5, 2) := by decide +kernel
theorem dX4_readContact_100 : decode cX4_readContact 100 = .ok (.iload 6, 2) := by decide +kernel
theorem dX4_readContact_102 : decode cX4_readContact 102 = .ok (.invokespecial 74, 3) := by decide +kernel
theorem dX4_readContact_105 : decode cX4_readContact 105 = .ok (.invokevirtual 77, 3) := by decide +kernel
theorem dX4_readContact_108 : decode cX4_readContact 108 = .ok (.return_, 1) := by decide +kernel
theorem dX4_readNumber_0 : decode cX4_readNumber 0 = .ok (.aload_n 0, 1) := by decide +kernel
theorem dX4_readNumber_1 : decode cX4_readNumber 1 = .ok (.invokevirtual 32, 3) := by decide +kernel
theorem dX4_readNumber_4 : decode cX4_readNumber 4 = .ok (.aload_n 0, 1) := by decide +kernel
theorem dX4_readNumber_5 : decode cX4_readNumber 5 = .ok (.getfield 22, 3) := by decide +kernel
theorem dX4_readNumber_8 : decode cX4_readNumber 8 = .ok (.istore 4, 2) := by decide +kernel
theorem dX4_readNumber_10 : decode cX4_readNumber 10 = .ok (.iconst 0, 1) := by decide +kernel
theorem dX4_readNumber_11 : decode cX4_readNumber 11 = .ok (.istore 5, 2) := by decide +kernel
theorem dX4_readNumber_13 : decode cX4_readNumber 13 = .ok (.aload_n 0, 1) := by decide +kernel
theorem dX4_readNumber_14 : decode cX4_readNumber 14 = .ok (.getfield 22, 3) := by decide +kernel
theorem dX4_readNumber_17 : decode cX4_readNumber 17 = .ok (.aload_n 0, 1) := by decide +kernel
theorem dX4_readNumber_18 : decode cX4_readNumber 18 = .ok (.getfield 9, 3) := by decide +kernel
theorem dX4_readNumber_21 : decode cX4_readNumber 21 = .ok (.getfield 35, 3) := by decide +kernel
theorem dX4_readNumber_24 : decode cX4_readNumber 24 = .ok (.if_icmp .ge 60, 3) := by decide +kernel
theorem dX4_readNumber_27 : decode cX4_readNumber 27 = .ok (.aload_n 0, 1) := by decide +kernel
theorem dX4_readNumber_28 : decode cX4_readNumber 28 = .ok (.getfield 9, 3) := by decide +kernel
theorem dX4_readNumber_31 : decode cX4_readNumber 31 = .ok (.aload_n 0, 1) := by decide +kernel
theorem dX4_readNumber_32 : decode cX4_readNumber 32 = .ok (.getfield 22, 3) := by decide +kernel
theorem dX4_readNumber_35 : decode cX4_readNumber 35 = .ok (.invokevirtual 44, 3) := by decide +kernel
theorem dX4_readNumber_38 : decode cX4_readNumber 38 = .ok (.invokestatic 81, 3) := by decide +kernel
theorem dX4_readNumber_41 : decode cX4_readNumber 41 = .ok (.ifCond .eq 43, 3) := by decide +kernel
theorem dX4_readNumber_44 : decode cX4_readNumber 44 = .ok (.iload 5, 2) := by decide +kernel
theorem dX4_readNumber_46 : decode cX4_readNumber 46 = .ok (.bipush 10, 2) := by decide +kernel
theorem dX4_readNumber_48 : decode cX4_readNumber 48 = .ok (.imul, 1) := by decide +kernel
theorem dX4_readNumber_49 : decode cX4_readNumber 49 = .ok (.aload_n 0, 1) := by decide +kernel
theorem dX4_readNumber_50 : decode cX4_readNumber 50 = .ok (.getfield 9, 3) := by decide +kernel
theorem dX4_readNumber_53 : decode cX4_readNumber 53 = .ok (.aload_n 0, 1) := by decide +kernel
theorem dX4_readNumber_54 : decode cX4_readNumber 54 = .ok (.getfield 22, 3) := by decide +kernel
theorem dX4_readNumber_57 : decode cX4_readNumber 57 = .ok (.invokevirtual 44, 3) := by decide +kernel
theorem dX4_readNumber_60 : decode cX4_readNumber 60 = .ok (.iadd, 1) := by decide +kernel
theorem dX4_readNumber_61 : decode cX4_readNumber 61 = .ok (.bipush 48, 2) := by decide +kernel
theorem dX4_readNumber_63 : decode cX4_readNumber 63 = .ok (.isub, 1) := by decide +kernel
theorem dX4_readNumber_64 : decode cX4_readNumber 64 = .ok (.bipush 100, 2) := by decide +kernel
theorem dX4_readNumber_66 : decode cX4_readNumber 66 = .ok (.invokestatic 85, 3) := by decide +kernel
theorem dX4_readNumber_69 : decode cX4_readNumber 69 = .ok (.istore 5, 2) := by decide +kernel
theorem dX4_readNumber_71 : decode cX4_readNumber 71 = .ok (.aload_n 0, 1) := by decide +kernel
theorem dX4_readNumber_72 : decode cX4_readNumber 72 = .ok (.dup, 1) := by decide +kernel
theorem dX4_readNumber_73 : decode cX4_readNumber 73 = .ok (.getfield 22, 3) := by decide +kernel
theorem dX4_readNumber_76 : decode cX4_readNumber 76 = .ok (.iconst 1, 1) := by decide +kernel
theorem dX4_readNumber_77 : decode cX4_readNumber 77 = .ok (.iadd, 1) := by decide +kernel
theorem dX4_readNumber_78 : decode cX4_readNumber 78 = .ok (.putfield 22, 3) := by decide +kernel
theorem dX4_readNumber_81 : decode cX4_readNumber 81 = .ok (.goto (-68), 3) := by decide +kernel
theorem dX4_readNumber_84 : decode cX4_readNumber 84 = .ok (.aload_n 0, 1) := by decide +kernel
theorem dX4_readNumber_85 : decode cX4_readNumber 85 = .ok (.getfield 22, 3) := by decide +kernel
theorem dX4_readNumber_88 : decode cX4_readNumber 88 = .ok (.iload 4, 2) := by decide +kernel
theorem dX4_readNumber_90 : decode cX4_readNumber 90 = .ok (.isub, 1) := by decide +kernel
theorem dX4_readNumber_91 : decode cX4_readNumber 91 = .ok (.iconst 1, 1) := by decide +kernel
theorem dX4_readNumber_92 : decode cX4_readNumber 92 = .ok (.if_icmp .le 21, 3) := by decide +kernel
theorem dX4_readNumber_95 : decode cX4_readNumber 95 = .ok (.aload_n 0, 1) := by decide +kernel
theorem dX4_readNumber_96 : decode cX4_readNumber 96 = .ok (.getfield 9, 3) := by decide +kernel
theorem dX4_readNumber_99 : decode cX4_readNumber 99 = .ok (.iload 4, 2) := by decide +kernel
theorem dX4_readNumber_101 : decode cX4_readNumber 101 = .ok (.invokevirtual 44, 3) := by decide +kernel
theorem dX4_readNumber_104 : decode cX4_readNumber 104 = .ok (.bipush 48, 2) := by decide +kernel
theorem dX4_readNumber_106 : decode cX4_readNumber 106 = .ok (.if_icmp .ne 7, 3) := by decide +kernel
theorem dX4_readNumber_109 : decode cX4_readNumber 109 = .ok (.iconst 1, 1) := by decide +kernel
theorem dX4_readNumber_110 : decode cX4_readNumber 110 = .ok (.goto 4, 3) := by decide +kernel
theorem dX4_readNumber_113 : decode cX4_readNumber 113 = .ok (.iconst 0, 1) := by decide +kernel
theorem dX4_readNumber_114 : decode cX4_readNumber 114 = .ok (.istore 6, 2) := by decide +kernel
theorem dX4_readNumber_116 : decode cX4_readNumber 116 = .ok (.aload_n 0, 1) := by decide +kernel
theorem dX4_readNumber_117 : decode cX4_readNumber 117 = .ok (.getfield 22, 3) := by decide +kernel
theorem dX4_readNumber_120 : decode cX4_readNumber 120 = .ok (.iload 4, 2) := by decide +kernel
theorem dX4_readNumber_122 : decode cX4_readNumber 122 = .ok (.if_icmp .eq 24, 3) := by decide +kernel
theorem dX4_readNumber_125 : decode cX4_readNumber 125 = .ok (.iload 6, 2) := by decide +kernel
theorem dX4_readNumber_127 : decode cX4_readNumber 127 = .ok (.ifCond .ne 19, 3) := by decide +kernel
theorem dX4_readNumber_130 : decode cX4_readNumber 130 = .ok (.iload 5, 2) := by decide +kernel
theorem dX4_readNumber_132 : decode cX4_readNumber 132 = .ok (.iload_n 1, 1) := by decide +kernel
theorem dX4_readNumber_133 : decode cX4_readNumber 133 = .ok (.iload_n 2, 1) := by decide +kernel
theorem dX4_readNumber_134 : decode cX4_readNumber 134 = .ok (.invokestatic 91, 3) := by decide +kernel
theorem dX4_readNumber_137 : decode cX4_readNumber 137 = .ok (.ifCond .eq 9, 3) := by decide +kernel
theorem dX4_readNumber_140 : decode cX4_readNumber 140 = .ok (.iload 5, 2) := by decide +kernel
theorem dX4_readNumber_142 : decode cX4_readNumber 142 = .ok (.iload_n 3, 1) := by decide +kernel
theorem dX4_readNumber_143 : decode cX4_readNumber 143 = .ok (.if_icmp .ne 9, 3) := by decide +kernel
theorem dX4_readNumber_146 : decode cX4_readNumber 146 = .ok (.aload_n 0, 1) := by decide +kernel
theorem dX4_readNumber_147 : decode cX4_readNumber 147 = .ok (.iload 4, 2) := by decide +kernel
theorem dX4_readNumber_149 : decode cX4_readNumber 149 = .ok (.invokevirtual 58, 3) := by decide +kernel
theorem dX4_readNumber_152 : decode cX4_readNumber 152 = .ok (.iload 5, 2) := by decide +kernel
theorem dX4_readNumber_154 : decode cX4_readNumber 154 = .ok (.ireturn, 1) := by decide +kernel
theorem dX4_readSemicolon_0 : decode cX4_readSemicolon 0 = .ok (.aload_n 0, 1) := by decide +kernel
theorem dX4_readSemicolon_1 : decode cX4_readSemicolon 1 = .ok (.invokevirtual 32, 3) := by decide +kernel
theorem dX4_readSemicolon_4 : decode cX4_readSemicolon 4 = .ok (.aload_n 0, 1) := by decide +kernel
theorem dX4_readSemicolon_5 : decode cX4_readSemicolon 5 = .ok (.getfield 9, 3) := by decide +kernel
theorem dX4_readSemicolon_8 : decode cX4_readSemicolon 8 = .ok (.aload_n 0, 1) := by decide +kernel
theorem dX4_readSemicolon_9 : decode cX4_readSemicolon 9 = .ok (.getfield 22, 3) := by decide +kernel
theorem dX4_readSemicolon_12 : decode cX4_readSemicolon 12 = .ok (.invokevirtual 44, 3) := by decide +kernel
theorem dX4_readSemicolon_15 : decode cX4_readSemicolon 15 = .ok (.bipush 59, 2) := by decide +kernel
theorem dX4_readSemicolon_17 : decode cX4_readSemicolon 17 = .ok (.if_icmp .ne 16, 3) := by decide +kernel
theorem dX4_readSemicolon_20 : decode cX4_readSemicolon 20 = .ok (.aload_n 0, 1) := by decide +kernel
theorem dX4_readSemicolon_21 : decode cX4_readSemicolon 21 = .ok (.dup, 1) := by decide +kernel
theorem dX4_readSemicolon_22 : decode cX4_readSemicolon 22 = .ok (.getfield 22, 3) := by decide +kernel
theorem dX4_readSemicolon_25 : decode cX4_readSemicolon 25 = .ok (.iconst 1, 1) := by decide +kernel
theorem dX4_readSemicolon_26 : decode cX4_readSemicolon 26 = .ok (.iadd, 1) := by decide +kernel
theorem dX4_readSemicolon_27 : decode cX4_readSemicolon 27 = .ok (.putfield 22, 3) := by decide +kernel
theorem dX4_readSemicolon_30 : decode cX4_readSemicolon 30 = .ok (.goto 11, 3) := by decide +kernel
theorem dX4_readSemicolon_33 : decode cX4_readSemicolon 33 = .ok (.aload_n 0, 1) := by decide +kernel
theorem dX4_readSemicolon_34 : decode cX4_readSemicolon 34 = .ok (.aload_n 0, 1) := by decide +kernel
theorem dX4_readSemicolon_35 : decode cX4_readSemicolon 35 = .ok (.getfield 22, 3) := by decide +kernel
theorem dX4_readSemicolon_38 : decode cX4_readSemicolon 38 = .ok (.invokevirtual 58, 3) := by decide +kernel
theorem dX4_readSemicolon_41 : decode cX4_readSemicolon 41 = .ok (.return_, 1) := by decide +kernel
theorem dX4_skipBlanks_0 : decode cX4_skipBlanks 0 = .ok (.aload_n 0, 1) := by decide +kernel
theorem dX4_skipBlanks_1 : decode cX4_skipBlanks 1 = .ok (.getfield 22, 3) := by decide +kernel
theorem dX4_skipBlanks_4 : decode cX4_skipBlanks 4 = .ok (.aload_n 0, 1) := by decide +kernel
theorem dX4_skipBlanks_5 : decode cX4_skipBlanks 5 = .ok (.getfield 9, 3) := by decide +kernel
theorem dX4_skipBlanks_8 : decode cX4_skipBlanks 8 = .ok (.getfield 35, 3) := by decide +kernel
theorem dX4_skipBlanks_11 : decode cX4_skipBlanks 11 = .ok (.if_icmp .ge 32, 3) := by decide +kernel
theorem dX4_skipBlanks_14 : decode cX4_skipBlanks 14 = .ok (.aload_n 0, 1) := by decide +kernel
theorem dX4_skipBlanks_15 : decode cX4_skipBlanks 15 = .ok (.getfield 9, 3) := by decide +kernel
theorem dX4_skipBlanks_18 : decode cX4_skipBlanks 18 = .ok (.aload_n 0, 1) := by decide +kernel
theorem dX4_skipBlanks_19 : decode cX4_skipBlanks 19 = .ok (.getfield 22, 3) := by decide +kernel
theorem dX4_skipBlanks_22 : decode cX4_skipBlanks 22 = .ok (.invokevirtual 44, 3) := by decide +kernel
theorem dX4_skipBlanks_25 : decode cX4_skipBlanks 25 = .ok (.bipush 32, 2) := by decide +kernel
theorem dX4_skipBlanks_27 : decode cX4_skipBlanks 27 = .ok (.if_icmp .ne 16, 3) := by decide +kernel
theorem dX4_skipBlanks_30 : decode cX4_skipBlanks 30 = .ok (.aload_n 0, 1) := by decide +kernel
theorem dX4_skipBlanks_31 : decode cX4_skipBlanks 31 = .ok (.dup, 1) := by decide +kernel
theorem dX4_skipBlanks_32 : decode cX4_skipBlanks 32 = .ok (.getfield 22, 3) := by decide +kernel
theorem dX4_skipBlanks_35 : decode cX4_skipBlanks 35 = .ok (.iconst 1, 1) := by decide +kernel
theorem dX4_skipBlanks_36 : decode cX4_skipBlanks 36 = .ok (.iadd, 1) := by decide +kernel
theorem dX4_skipBlanks_37 : decode cX4_skipBlanks 37 = .ok (.putfield 22, 3) := by decide +kernel
theorem dX4_skipBlanks_40 : decode cX4_skipBlanks 40 = .ok (.goto (-40), 3) := by decide +kernel
theorem dX4_skipBlanks_43 : decode cX4_skipBlanks 43 = .ok (.return_, 1) := by decide +kernel
theorem dX4_isDigit_0 : decode cX4_isDigit 0 = .ok (.iload_n 0, 1) := by decide +kernel
theorem dX4_isDigit_1 : decode cX4_isDigit 1 = .ok (.bipush 48, 2) := by decide +kernel
theorem dX4_isDigit_3 : decode cX4_isDigit 3 = .ok (.if_icmp .lt 13, 3) := by decide +kernel
theorem dX4_isDigit_6 : decode cX4_isDigit 6 = .ok (.iload_n 0, 1) := by decide +kernel
theorem dX4_isDigit_7 : decode cX4_isDigit 7 = .ok (.bipush 57, 2) := by decide +kernel
theorem dX4_isDigit_9 : decode cX4_isDigit 9 = .ok (.if_icmp .gt 7, 3) := by decide +kernel
theorem dX4_isDigit_12 : decode cX4_isDigit 12 = .ok (.iconst 1, 1) := by decide +kernel
theorem dX4_isDigit_13 : decode cX4_isDigit 13 = .ok (.goto 4, 3) := by decide +kernel
theorem dX4_isDigit_16 : decode cX4_isDigit 16 = .ok (.iconst 0, 1) := by decide +kernel
theorem dX4_isDigit_17 : decode cX4_isDigit 17 = .ok (.ireturn, 1) := by decide +kernel
theorem dX4_blame_0 : decode cX4_blame 0 = .ok (.aload_n 0, 1) := by decide +kernel
theorem dX4_blame_1 : decode cX4_blame 1 = .ok (.getfield 26, 3) := by decide +kernel
theorem dX4_blame_4 : decode cX4_blame 4 = .ok (.iconst (-1), 1) := by decide +kernel
theorem dX4_blame_5 : decode cX4_blame 5 = .ok (.if_icmp .ne 8, 3) := by decide +kernel
theorem dX4_blame_8 : decode cX4_blame 8 = .ok (.aload_n 0, 1) := by decide +kernel
theorem dX4_blame_9 : decode cX4_blame 9 = .ok (.iload_n 1, 1) := by decide +kernel
theorem dX4_blame_10 : decode cX4_blame 10 = .ok (.putfield 26, 3) := by decide +kernel
theorem dX4_blame_13 : decode cX4_blame 13 = .ok (.return_, 1) := by decide +kernel
theorem dX0_start_0 : decode cX0_start 0 = .ok (.aload_n 0, 1) := by decide +kernel
theorem dX0_start_1 : decode cX0_start 1 = .ok (.iload_n 1, 1) := by decide +kernel
theorem dX0_start_2 : decode cX0_start 2 = .ok (.putfield 24, 3) := by decide +kernel
theorem dX0_start_5 : decode cX0_start 5 = .ok (.aload_n 0, 1) := by decide +kernel
theorem dX0_start_6 : decode cX0_start 6 = .ok (.iload_n 2, 1) := by decide +kernel
theorem dX0_start_7 : decode cX0_start 7 = .ok (.putfield 28, 3) := by decide +kernel
theorem dX0_start_10 : decode cX0_start 10 = .ok (.aload_n 0, 1) := by decide +kernel
theorem dX0_start_11 : decode cX0_start 11 = .ok (.iload_n 3, 1) := by decide +kernel
theorem dX0_start_12 : decode cX0_start 12 = .ok (.putfield 31, 3) := by decide +kernel
theorem dX0_start_15 : decode cX0_start 15 = .ok (.aload_n 0, 1) := by decide +kernel
theorem dX0_start_16 : decode cX0_start 16 = .ok (.iload 4, 2) := by decide +kernel
theorem dX0_start_18 : decode cX0_start 18 = .ok (.putfield 34, 3) := by decide +kernel
theorem dX0_start_21 : decode cX0_start 21 = .ok (.aload_n 0, 1) := by decide +kernel
theorem dX0_start_22 : decode cX0_start 22 = .ok (.iload 5, 2) := by decide +kernel
theorem dX0_start_24 : decode cX0_start 24 = .ok (.putfield 37, 3) := by decide +kernel
theorem dX0_start_27 : decode cX0_start 27 = .ok (.aload_n 0, 1) := by decide +kernel
theorem dX0_start_28 : decode cX0_start 28 = .ok (.iconst 0, 1) := by decide +kernel
theorem dX0_start_29 : decode cX0_start 29 = .ok (.putfield 40, 3) := by decide +kernel
theorem dX0_start_32 : decode cX0_start 32 = .ok (.aload_n 0, 1) := by decide +kernel
theorem dX0_start_33 : decode cX0_start 33 = .ok (.iconst 0, 1) := by decide +kernel
theorem dX0_start_34 : decode cX0_start 34 = .ok (.putfield 44, 3) := by decide +kernel
theorem dX0_start_37 : decode cX0_start 37 = .ok (.aload_n 0, 1) := by decide +kernel
theorem dX0_start_38 : decode cX0_start 38 = .ok (.getfield 20, 3) := by decide +kernel
theorem dX0_start_41 : decode cX0_start 41 = .ok (.iconst 0, 1) := by decide +kernel
theorem dX0_start_42 : decode cX0_start 42 = .ok (.invokevirtual 47, 3) := by decide +kernel
theorem dX0_start_45 : decode cX0_start 45 = .ok (.return_, 1) := by decide +kernel
theorem dX0_copyFrom_0 : decode cX0_copyFrom 0 = .ok (.aload_n 0, 1) := by decide +kernel
theorem dX0_copyFrom_1 : decode cX0_copyFrom 1 = .ok (.aload_n 1, 1) := by decide +kernel
theorem dX0_copyFrom_2 : decode cX0_copyFrom 2 = .ok (.getfield 24, 3) := by decide +kernel
theorem dX0_copyFrom_5 : decode cX0_copyFrom 5 = .ok (.aload_n 1, 1) := by decide +kernel
theorem dX0_copyFrom_6 : decode cX0_copyFrom 6 = .ok (.getfield 28, 3) := by decide +kernel
theorem dX0_copyFrom_9 : decode cX0_copyFrom 9 = .ok (.aload_n 1, 1) := by decide +kernel
theorem dX0_copyFrom_10 : decode cX0_copyFrom 10 = .ok (.getfield 31, 3) := by decide +kernel
theorem dX0_copyFrom_13 : decode cX0_copyFrom 13 = .ok (.aload_n 1, 1) := by decide +kernel
theorem dX0_copyFrom_14 : decode cX0_copyFrom 14 = .ok (.getfield 34, 3) := by decide +kernel
theorem dX0_copyFrom_17 : decode cX0_copyFrom 17 = .ok (.aload_n 1, 1) := by decide +kernel
theorem dX0_copyFrom_18 : decode cX0_copyFrom 18 = .ok (.getfield 37, 3) := by decide +kernel
theorem dX0_copyFrom_21 : decode cX0_copyFrom 21 = .ok (.invokevirtual 51, 3) := by decide +kernel
theorem dX0_copyFrom_24 : decode cX0_copyFrom 24 = .ok (.aload_n 0, 1) := by decide +kernel
theorem dX0_copyFrom_25 : decode cX0_copyFrom 25 = .ok (.aload_n 1, 1) := by decide +kernel
theorem dX0_copyFrom_26 : decode cX0_copyFrom 26 = .ok (.getfield 40, 3) := by decide +kernel
theorem dX0_copyFrom_29 : decode cX0_copyFrom 29 = .ok (.putfield 40, 3) := by decide +kernel
theorem dX0_copyFrom_32 : decode cX0_copyFrom 32 = .ok (.aload_n 0, 1) := by decide +kernel
theorem dX0_copyFrom_33 : decode cX0_copyFrom 33 = .ok (.aload_n 1, 1) := by decide +kernel
theorem dX0_copyFrom_34 : decode cX0_copyFrom 34 = .ok (.getfield 44, 3) := by decide +kernel
theorem dX0_copyFrom_37 : decode cX0_copyFrom 37 = .ok (.putfield 44, 3) := by decide +kernel
theorem dX0_copyFrom_40 : decode cX0_copyFrom 40 = .ok (.aload_n 0, 1) := by decide +kernel
theorem dX0_copyFrom_41 : decode cX0_copyFrom 41 = .ok (.getfield 20, 3) := by decide +kernel
theorem dX0_copyFrom_44 : decode cX0_copyFrom 44 = .ok (.aload_n 1, 1) := by decide +kernel
theorem dX0_copyFrom_45 : decode cX0_copyFrom 45 = .ok (.getfield 20, 3) := by decide +kernel
theorem dX0_copyFrom_48 : decode cX0_copyFrom 48 = .ok (.invokevirtual 55, 3) := by decide +kernel
theorem dX0_copyFrom_51 : decode cX0_copyFrom 51 = .ok (.return_, 1) := by decide +kernel
theorem dX0_standing_0 : decode cX0_standing 0 = .ok (.aload_n 0, 1) := by decide +kernel
theorem dX0_standing_1 : decode cX0_standing 1 = .ok (.getfield 24, 3) := by decide +kernel
theorem dX0_standing_4 : decode cX0_standing 4 = .ok (.aload_n 0, 1) := by decide +kernel
theorem dX0_standing_5 : decode cX0_standing 5 = .ok (.getfield 28, 3) := by decide +kernel
theorem dX0_standing_8 : decode cX0_standing 8 = .ok (.if_icmp .ne 5, 3) := by decide +kernel
theorem dX0_standing_11 : decode cX0_standing 11 = .ok (.iconst 2, 1) := by decide +kernel
theorem dX0_standing_12 : decode cX0_standing 12 = .ok (.ireturn, 1) := by decide +kernel
theorem dX0_standing_13 : decode cX0_standing 13 = .ok (.aload_n 0, 1) := by decide +kernel
theorem dX0_standing_14 : decode cX0_standing 14 = .ok (.getfield 40, 3) := by decide +kernel
theorem dX0_standing_17 : decode cX0_standing 17 = .ok (.ifCond .eq 5, 3) := by decide +kernel
theorem dX0_standing_20 : decode cX0_standing 20 = .ok (.iconst 4, 1) := by decide +kernel
theorem dX0_standing_21 : decode cX0_standing 21 = .ok (.ireturn, 1) := by decide +kernel
theorem dX0_standing_22 : decode cX0_standing 22 = .ok (.iload_n 1, 1) := by decide +kernel
theorem dX0_standing_23 : decode cX0_standing 23 = .ok (.aload_n 0, 1) := by decide +kernel
theorem dX0_standing_24 : decode cX0_standing 24 = .ok (.getfield 34, 3) := by decide +kernel
theorem dX0_standing_27 : decode cX0_standing 27 = .ok (.if_icmp .le 5, 3) := by decide +kernel
theorem dX0_standing_30 : decode cX0_standing 30 = .ok (.iconst 3, 1) := by decide +kernel
theorem dX0_standing_31 : decode cX0_standing 31 = .ok (.ireturn, 1) := by decide +kernel
theorem dX0_standing_32 : decode cX0_standing 32 = .ok (.aload_n 0, 1) := by decide +kernel
theorem dX0_standing_33 : decode cX0_standing 33 = .ok (.invokevirtual 59, 3) := by decide +kernel
theorem dX0_standing_36 : decode cX0_standing 36 = .ok (.aload_n 0, 1) := by decide +kernel
theorem dX0_standing_37 : decode cX0_standing 37 = .ok (.getfield 28, 3) := by decide +kernel
theorem dX0_standing_40 : decode cX0_standing 40 = .ok (.if_icmp .ne 7, 3) := by decide +kernel
theorem dX0_standing_43 : decode cX0_standing 43 = .ok (.iconst 1, 1) := by decide +kernel
theorem dX0_standing_44 : decode cX0_standing 44 = .ok (.goto 4, 3) := by decide +kernel
theorem dX0_standing_47 : decode cX0_standing 47 = .ok (.iconst 0, 1) := by decide +kernel
theorem dX0_standing_48 : decode cX0_standing 48 = .ok (.ireturn, 1) := by decide +kernel
theorem dX0_lastNode_0 : decode cX0_lastNode 0 = .ok (.aload_n 0, 1) := by decide +kernel
theorem dX0_lastNode_1 : decode cX0_lastNode 1 = .ok (.getfield 20, 3) := by decide +kernel
theorem dX0_lastNode_4 : decode cX0_lastNode 4 = .ok (.getfield 63, 3) := by decide +kernel
theorem dX0_lastNode_7 : decode cX0_lastNode 7 = .ok (.ifCond .ne 8, 3) := by decide +kernel
theorem dX0_lastNode_10 : decode cX0_lastNode 10 = .ok (.aload_n 0, 1) := by decide +kernel
theorem dX0_lastNode_11 : decode cX0_lastNode 11 = .ok (.getfield 24, 3) := by decide +kernel
theorem dX0_lastNode_14 : decode cX0_lastNode 14 = .ok (.ireturn, 1) := by decide +kernel
theorem dX0_lastNode_15 : decode cX0_lastNode 15 = .ok (.aload_n 0, 1) := by decide +kernel
theorem dX0_lastNode_16 : decode cX0_lastNode 16 = .ok (.getfield 9, 3) := by decide +kernel
theorem dX0_lastNode_19 : decode cX0_lastNode 19 = .ok (.aload_n 0, 1) := by decide +kernel
theorem dX0_lastNode_20 : decode cX0_lastNode 20 = .ok (.getfield 20, 3) := by decide +kernel
theorem dX0_lastNode_23 : decode cX0_lastNode 23 = .ok (.aload_n 0, 1) := by decide +kernel
theorem dX0_lastNode_24 : decode cX0_lastNode 24 = .ok (.getfield 20, 3) := by decide +kernel
theorem dX0_lastNode_27 : decode cX0_lastNode 27 = .ok (.getfield 63, 3) := by decide +kernel
theorem dX0_lastNode_30 : decode cX0_lastNode 30 = .ok (.iconst 1, 1) := by decide +kernel
theorem dX0_lastNode_31 : decode cX0_lastNode 31 = .ok (.isub, 1) := by decide +kernel
theorem dX0_lastNode_32 : decode cX0_lastNode 32 = .ok (.iconst 0, 1) := by decide +kernel
theorem dX0_lastNode_33 : decode cX0_lastNode 33 = .ok (.invokevirtual 66, 3) := by decide +kernel
theorem dX0_lastNode_36 : decode cX0_lastNode 36 = .ok (.invokevirtual 70, 3) := by decide +kernel
theorem dX0_lastNode_39 : decode cX0_lastNode 39 = .ok (.getfield 76, 3) := by decide +kernel
theorem dX0_lastNode_42 : decode cX0_lastNode 42 = .ok (.ireturn, 1) := by decide +kernel
theorem dX0_lastThere_0 : decode cX0_lastThere 0 = .ok (.aload_n 0, 1) := by decide +kernel
theorem dX0_lastThere_1 : decode cX0_lastThere 1 = .ok (.getfield 20, 3) := by decide +kernel
theorem dX0_lastThere_4 : decode cX0_lastThere 4 = .ok (.aload_n 0, 1) := by decide +kernel
theorem dX0_lastThere_5 : decode cX0_lastThere 5 = .ok (.getfield 20, 3) := by decide +kernel
theorem dX0_lastThere_8 : decode cX0_lastThere 8 = .ok (.getfield 63, 3) := by decide +kernel
theorem dX0_lastThere_11 : decode cX0_lastThere 11 = .ok (.iconst 1, 1) := by decide +kernel
theorem dX0_lastThere_12 : decode cX0_lastThere 12 = .ok (.isub, 1) := by decide +kernel
theorem dX0_lastThere_13 : decode cX0_lastThere 13 = .ok (.iconst 3, 1) := by decide +kernel
theorem dX0_lastThere_14 : decode cX0_lastThere 14 = .ok (.invokevirtual 66, 3) := by decide +kernel
theorem dX0_lastThere_17 : decode cX0_lastThere 17 = .ok (.ireturn, 1) := by decide +kernel
theorem dX0_property_0 : decode cX0_property 0 = .ok (.iload_n 1, 1) := by decide +kernel
theorem dX0_property_1 : decode cX0_property 1 = .ok (.tableswitch 113 0 8 #[51, 57, 62, 67, 75, 80, 85, 90, 95], 51) := by decide +kernel
theorem dX0_property_52 : decode cX0_property 52 = .ok (.aload_n 0, 1) := by decide +kernel
theorem dX0_property_53 : decode cX0_property 53 = .ok (.iload_n 2, 1) := by decide +kernel
theorem dX0_property_54 : decode cX0_property 54 = .ok (.invokevirtual 81, 3) := by decide +kernel
theorem dX0_property_57 : decode cX0_property 57 = .ok (.ireturn, 1) := by decide +kernel
theorem dX0_property_58 : decode cX0_property 58 = .ok (.aload_n 0, 1) := by decide +kernel
theorem dX0_property_59 : decode cX0_property 59 = .ok (.getfield 24, 3) := by decide +kernel
theorem dX0_property_62 : decode cX0_property 62 = .ok (.ireturn, 1) := by decide +kernel
theorem dX0_property_63 : decode cX0_property 63 = .ok (.aload_n 0, 1) := by decide +kernel
theorem dX0_property_64 : decode cX0_property 64 = .ok (.invokevirtual 85, 3) := by decide +kernel
theorem dX0_property_67 : decode cX0_property 67 = .ok (.ireturn, 1) := by decide +kernel
theorem dX0_property_68 : decode cX0_property 68 = .ok (.aload_n 0, 1) := by decide +kernel
theorem dX0_property_69 : decode cX0_property 69 = .ok (.getfield 20, 3) := by decide +kernel
theorem dX0_property_72 : decode cX0_property 72 = .ok (.getfield 63, 3) := by decide +kernel
theorem dX0_property_75 : decode cX0_property 75 = .ok (.ireturn, 1) := by decide +kernel
theorem dX0_property_76 : decode cX0_property 76 = .ok (.aload_n 0, 1) := by decide +kernel
theorem dX0_property_77 : decode cX0_property 77 = .ok (.getfield 37, 3) := by decide +kernel
theorem dX0_property_80 : decode cX0_property 80 = .ok (.ireturn, 1) := by decide +kernel
theorem dX0_property_81 : decode cX0_property 81 = .ok (.aload_n 0, 1) := by decide +kernel
theorem dX0_property_82 : decode cX0_property 82 = .ok (.getfield 31, 3) := by decide +kernel
theorem dX0_property_85 : decode cX0_property 85 = .ok (.ireturn, 1) := by decide +kernel
theorem dX0_property_86 : decode cX0_property 86 = .ok (.aload_n 0, 1) := by decide +kernel
theorem dX0_property_87 : decode cX0_property 87 = .ok (.getfield 34, 3) := by decide +kernel
theorem dX0_property_90 : decode cX0_property 90 = .ok (.ireturn, 1) := by decide +kernel
theorem dX0_property_91 : decode cX0_property 91 = .ok (.aload_n 0, 1) := by decide +kernel
theorem dX0_property_92 : decode cX0_property 92 = .ok (.getfield 28, 3) := by decide +kernel
theorem dX0_property_95 : decode cX0_property 95 = .ok (.ireturn, 1) := by decide +kernel
theorem dX0_property_96 : decode cX0_property 96 = .ok (.aload_n 0, 1) := by decide +kernel
theorem dX0_property_97 : decode cX0_property 97 = .ok (.iload_n 2, 1) := by decide +kernel
theorem dX0_property_98 : decode cX0_property 98 = .ok (.invokevirtual 81, 3) := by decide +kernel
theorem dX0_property_101 : decode cX0_property 101 = .ok (.ifCond .ne 10, 3) := by decide +kernel
theorem dX0_property_104 : decode cX0_property 104 = .ok (.aload_n 0, 1) := by decide +kernel
theorem dX0_property_105 : decode cX0_property 105 = .ok (.getfield 44, 3) := by decide +kernel
theorem dX0_property_108 : decode cX0_property 108 = .ok (.goto 5, 3) := by decide +kernel
theorem dX0_property_111 : decode cX0_property 111 = .ok (.bipush (-9), 2) := by decide +kernel
theorem dX0_property_113 : decode cX0_property 113 = .ok (.ireturn, 1) := by decide +kernel
theorem dX0_property_114 : decode cX0_property 114 = .ok (.iconst (-1), 1) := by decide +kernel
theorem dX0_property_115 : decode cX0_property 115 = .ok (.ireturn, 1) := by decide +kernel
theorem dX0_drop_0 : decode cX0_drop 0 = .ok (.aload_n 0, 1) := by decide +kernel
theorem dX0_drop_1 : decode cX0_drop 1 = .ok (.iconst 1, 1) := by decide +kernel
theorem dX0_drop_2 : decode cX0_drop 2 = .ok (.putfield 40, 3) := by decide +kernel
theorem dX0_drop_5 : decode cX0_drop 5 = .ok (.aload_n 0, 1) := by decide +kernel
theorem dX0_drop_6 : decode cX0_drop 6 = .ok (.iload_n 1, 1) := by decide +kernel
theorem dX0_drop_7 : decode cX0_drop 7 = .ok (.invokevirtual 88, 3) := by decide +kernel
theorem dX0_drop_10 : decode cX0_drop 10 = .ok (.return_, 1) := by decide +kernel
theorem dX0_giveUpHopsToCome_0 : decode cX0_giveUpHopsToCome 0 = .ok (.aload_n 0, 1) := by decide +kernel
theorem dX0_giveUpHopsToCome_1 : decode cX0_giveUpHopsToCome 1 = .ok (.getfield 20, 3) := by decide +kernel
theorem dX0_giveUpHopsToCome_4 : decode cX0_giveUpHopsToCome 4 = .ok (.aload_n 0, 1) := by decide +kernel
theorem dX0_giveUpHopsToCome_5 : decode cX0_giveUpHopsToCome 5 = .ok (.iload_n 1, 1) := by decide +kernel
theorem dX0_giveUpHopsToCome_6 : decode cX0_giveUpHopsToCome 6 = .ok (.invokevirtual 91, 3) := by decide +kernel
theorem dX0_giveUpHopsToCome_9 : decode cX0_giveUpHopsToCome 9 = .ok (.invokevirtual 47, 3) := by decide +kernel
theorem dX0_giveUpHopsToCome_12 : decode cX0_giveUpHopsToCome 12 = .ok (.return_, 1) := by decide +kernel
theorem dX0_hopsOnTheirWay_0 : decode cX0_hopsOnTheirWay 0 = .ok (.aload_n 0, 1) := by decide +kernel
theorem dX0_hopsOnTheirWay_1 : decode cX0_hopsOnTheirWay 1 = .ok (.getfield 20, 3) := by decide +kernel
theorem dX0_hopsOnTheirWay_4 : decode cX0_hopsOnTheirWay 4 = .ok (.getfield 63, 3) := by decide +kernel
theorem dX0_hopsOnTheirWay_7 : decode cX0_hopsOnTheirWay 7 = .ok (.ifCond .le 20, 3) := by decide +kernel
theorem dX0_hopsOnTheirWay_10 : decode cX0_hopsOnTheirWay 10 = .ok (.aload_n 0, 1) := by decide +kernel
theorem dX0_hopsOnTheirWay_11 : decode cX0_hopsOnTheirWay 11 = .ok (.getfield 20, 3) := by decide +kernel
theorem dX0_hopsOnTheirWay_14 : decode cX0_hopsOnTheirWay 14 = .ok (.iconst 0, 1) := by decide +kernel
theorem dX0_hopsOnTheirWay_15 : decode cX0_hopsOnTheirWay 15 = .ok (.iconst 1, 1) := by decide +kernel
theorem dX0_hopsOnTheirWay_16 : decode cX0_hopsOnTheirWay 16 = .ok (.invokevirtual 66, 3) := by decide +kernel
theorem dX0_hopsOnTheirWay_19 : decode cX0_hopsOnTheirWay 19 = .ok (.iload_n 1, 1) := by decide +kernel
theorem dX0_hopsOnTheirWay_20 : decode cX0_hopsOnTheirWay 20 = .ok (.if_icmp .ge 7, 3) := by decide +kernel
theorem dX0_hopsOnTheirWay_23 : decode cX0_hopsOnTheirWay 23 = .ok (.iconst 1, 1) := by decide +kernel
theorem dX0_hopsOnTheirWay_24 : decode cX0_hopsOnTheirWay 24 = .ok (.goto 4, 3) := by decide +kernel
theorem dX0_hopsOnTheirWay_27 : decode cX0_hopsOnTheirWay 27 = .ok (.iconst 0, 1) := by decide +kernel
theorem dX0_hopsOnTheirWay_28 : decode cX0_hopsOnTheirWay 28 = .ok (.ireturn, 1) := by decide +kernel
theorem dX0_arrive_0 : decode cX0_arrive 0 = .ok (.iconst 0, 1) := by decide +kernel
theorem dX0_arrive_1 : decode cX0_arrive 1 = .ok (.istore_n 2, 1) := by decide +kernel
theorem dX0_arrive_2 : decode cX0_arrive 2 = .ok (.iload_n 2, 1) := by decide +kernel
theorem dX0_arrive_3 : decode cX0_arrive 3 = .ok (.bipush 6, 2) := by decide +kernel
theorem dX0_arrive_5 : decode cX0_arrive 5 = .ok (.if_icmp .ge 62, 3) := by decide +kernel
theorem dX0_arrive_8 : decode cX0_arrive 8 = .ok (.aload_n 0, 1) := by decide +kernel
theorem dX0_arrive_9 : decode cX0_arrive 9 = .ok (.getfield 20, 3) := by decide +kernel
theorem dX0_arrive_12 : decode cX0_arrive 12 = .ok (.getfield 63, 3) := by decide +kernel
theorem dX0_arrive_15 : decode cX0_arrive 15 = .ok (.ifCond .le 46, 3) := by decide +kernel
theorem dX0_arrive_18 : decode cX0_arrive 18 = .ok (.aload_n 0, 1) := by decide +kernel
theorem dX0_arrive_19 : decode cX0_arrive 19 = .ok (.getfield 20, 3) := by decide +kernel
theorem dX0_arrive_22 : decode cX0_arrive 22 = .ok (.iconst 0, 1) := by decide +kernel
theorem dX0_arrive_23 : decode cX0_arrive 23 = .ok (.iconst 3, 1) := by decide +kernel
theorem dX0_arrive_24 : decode cX0_arrive 24 = .ok (.invokevirtual 66, 3) := by decide +kernel
theorem dX0_arrive_27 : decode cX0_arrive 27 = .ok (.iload_n 1, 1) := by decide +kernel
theorem dX0_arrive_28 : decode cX0_arrive 28 = .ok (.if_icmp .gt 33, 3) := by decide +kernel
theorem dX0_arrive_31 : decode cX0_arrive 31 = .ok (.aload_n 0, 1) := by decide +kernel
theorem dX0_arrive_32 : decode cX0_arrive 32 = .ok (.aload_n 0, 1) := by decide +kernel
theorem dX0_arrive_33 : decode cX0_arrive 33 = .ok (.getfield 9, 3) := by decide +kernel
theorem dX0_arrive_36 : decode cX0_arrive 36 = .ok (.aload_n 0, 1) := by decide +kernel
theorem dX0_arrive_37 : decode cX0_arrive 37 = .ok (.getfield 20, 3) := by decide +kernel
theorem dX0_arrive_40 : decode cX0_arrive 40 = .ok (.iconst 0, 1) := by decide +kernel
theorem dX0_arrive_41 : decode cX0_arrive 41 = .ok (.iconst 0, 1) := by decide +kernel
theorem dX0_arrive_42 : decode cX0_arrive 42 = .ok (.invokevirtual 66, 3) := by decide +kernel
theorem dX0_arrive_45 : decode cX0_arrive 45 = .ok (.invokevirtual 70, 3) := by decide +kernel
theorem dX0_arrive_48 : decode cX0_arrive 48 = .ok (.getfield 76, 3) := by decide +kernel
theorem dX0_arrive_51 : decode cX0_arrive 51 = .ok (.putfield 24, 3) := by decide +kernel
theorem dX0_arrive_54 : decode cX0_arrive 54 = .ok (.aload_n 0, 1) := by decide +kernel
theorem dX0_arrive_55 : decode cX0_arrive 55 = .ok (.getfield 20, 3) := by decide +kernel
theorem dX0_arrive_58 : decode cX0_arrive 58 = .ok (.invokevirtual 94, 3) := by decide +kernel
theorem dX0_arrive_61 : decode cX0_arrive 61 = .ok (.iinc 2 1, 3) := by decide +kernel
theorem dX0_arrive_64 : decode cX0_arrive 64 = .ok (.goto (-62), 3) := by decide +kernel
theorem dX0_arrive_67 : decode cX0_arrive 67 = .ok (.return_, 1) := by decide +kernel
theorem dX0_loses_0 : decode cX0_loses 0 = .ok (.iconst 0, 1) := by decide +kernel
theorem dX0_loses_1 : decode cX0_loses 1 = .ok (.istore_n 3, 1) := by decide +kernel
theorem dX0_loses_2 : decode cX0_loses 2 = .ok (.iload_n 3, 1) := by decide +kernel
theorem dX0_loses_3 : decode cX0_loses 3 = .ok (.aload_n 0, 1) := by decide +kernel
theorem dX0_loses_4 : decode cX0_loses 4 = .ok (.getfield 20, 3) := by decide +kernel
theorem dX0_loses_7 : decode cX0_loses 7 = .ok (.getfield 63, 3) := by decide +kernel
theorem dX0_loses_10 : decode cX0_loses 10 = .ok (.if_icmp .ge 57, 3) := by decide +kernel
theorem dX0_loses_13 : decode cX0_loses 13 = .ok (.aload_n 0, 1) := by decide +kernel
theorem dX0_loses_14 : decode cX0_loses 14 = .ok (.getfield 20, 3) := by decide +kernel
theorem dX0_loses_17 : decode cX0_loses 17 = .ok (.iload_n 3, 1) := by decide +kernel
theorem dX0_loses_18 : decode cX0_loses 18 = .ok (.iconst 0, 1) := by decide +kernel
theorem dX0_loses_19 : decode cX0_loses 19 = .ok (.invokevirtual 66, 3) := by decide +kernel
theorem dX0_loses_22 : decode cX0_loses 22 = .ok (.iload_n 1, 1) := by decide +kernel
theorem dX0_loses_23 : decode cX0_loses 23 = .ok (.if_icmp .ne 38, 3) := by decide +kernel
theorem dX0_loses_26 : decode cX0_loses 26 = .ok (.aload_n 0, 1) := by decide +kernel
theorem dX0_loses_27 : decode cX0_loses 27 = .ok (.getfield 20, 3) := by decide +kernel
theorem dX0_loses_30 : decode cX0_loses 30 = .ok (.iload_n 3, 1) := by decide +kernel
theorem dX0_loses_31 : decode cX0_loses 31 = .ok (.iconst 2, 1) := by decide +kernel
theorem dX0_loses_32 : decode cX0_loses 32 = .ok (.invokevirtual 66, 3) := by decide +kernel
theorem dX0_loses_35 : decode cX0_loses 35 = .ok (.iload_n 2, 1) := by decide +kernel
theorem dX0_loses_36 : decode cX0_loses 36 = .ok (.if_icmp .le 25, 3) := by decide +kernel
theorem dX0_loses_39 : decode cX0_loses 39 = .ok (.aload_n 0, 1) := by decide +kernel
theorem dX0_loses_40 : decode cX0_loses 40 = .ok (.getfield 20, 3) := by decide +kernel
theorem dX0_loses_43 : decode cX0_loses 43 = .ok (.iload_n 3, 1) := by decide +kernel
theorem dX0_loses_44 : decode cX0_loses 44 = .ok (.ifCond .ne 7, 3) := by decide +kernel
theorem dX0_loses_47 : decode cX0_loses 47 = .ok (.iconst 0, 1) := by decide +kernel
theorem dX0_loses_48 : decode cX0_loses 48 = .ok (.goto 8, 3) := by decide +kernel
theorem dX0_loses_51 : decode cX0_loses 51 = .ok (.aload_n 0, 1) := by decide +kernel
theorem dX0_loses_52 : decode cX0_loses 52 = .ok (.iload_n 2, 1) := by decide +kernel
theorem dX0_loses_53 : decode cX0_loses 53 = .ok (.invokevirtual 91, 3) := by decide +kernel
theorem dX0_loses_56 : decode cX0_loses 56 = .ok (.invokevirtual 47, 3) := by decide +kernel
theorem dX0_loses_59 : decode cX0_loses 59 = .ok (.iconst 1, 1) := by decide +kernel
theorem dX0_loses_60 : decode cX0_loses 60 = .ok (.ireturn, 1) := by decide +kernel
theorem dX0_loses_61 : decode cX0_loses 61 = .ok (.iinc 3 1, 3) := by decide +kernel
theorem dX0_loses_64 : decode cX0_loses 64 = .ok (.goto (-62), 3) := by decide +kernel
theorem dX0_loses_67 : decode cX0_loses 67 = .ok (.iconst 0, 1) := by decide +kernel
theorem dX0_loses_68 : decode cX0_loses 68 = .ok (.ireturn, 1) := by decide +kernel
theorem dX0_takes_0 : decode cX0_takes 0 = .ok (.iconst 0, 1) := by decide +kernel
theorem dX0_takes_1 : decode cX0_takes 1 = .ok (.istore_n 3, 1) := by decide +kernel
theorem dX0_takes_2 : decode cX0_takes 2 = .ok (.iload_n 3, 1) := by decide +kernel
theorem dX0_takes_3 : decode cX0_takes 3 = .ok (.aload_n 0, 1) := by decide +kernel
theorem dX0_takes_4 : decode cX0_takes 4 = .ok (.getfield 20, 3) := by decide +kernel
theorem dX0_takes_7 : decode cX0_takes 7 = .ok (.getfield 63, 3) := by decide +kernel
theorem dX0_takes_10 : decode cX0_takes 10 = .ok (.if_icmp .ge 50, 3) := by decide +kernel
theorem dX0_takes_13 : decode cX0_takes 13 = .ok (.aload_n 0, 1) := by decide +kernel
theorem dX0_takes_14 : decode cX0_takes 14 = .ok (.getfield 20, 3) := by decide +kernel
theorem dX0_takes_17 : decode cX0_takes 17 = .ok (.iload_n 3, 1) := by decide +kernel
theorem dX0_takes_18 : decode cX0_takes 18 = .ok (.iconst 0, 1) := by decide +kernel
theorem dX0_takes_19 : decode cX0_takes 19 = .ok (.invokevirtual 66, 3) := by decide +kernel
theorem dX0_takes_22 : decode cX0_takes 22 = .ok (.iload_n 1, 1) := by decide +kernel
theorem dX0_takes_23 : decode cX0_takes 23 = .ok (.if_icmp .ne 31, 3) := by decide +kernel
theorem dX0_takes_26 : decode cX0_takes 26 = .ok (.aload_n 0, 1) := by decide +kernel
theorem dX0_takes_27 : decode cX0_takes 27 = .ok (.getfield 20, 3) := by decide +kernel
theorem dX0_takes_30 : decode cX0_takes 30 = .ok (.iload_n 3, 1) := by decide +kernel
theorem dX0_takes_31 : decode cX0_takes 31 = .ok (.iconst 1, 1) := by decide +kernel
theorem dX0_takes_32 : decode cX0_takes 32 = .ok (.invokevirtual 66, 3) := by decide +kernel
theorem dX0_takes_35 : decode cX0_takes 35 = .ok (.iload_n 2, 1) := by decide +kernel
theorem dX0_takes_36 : decode cX0_takes 36 = .ok (.if_icmp .gt 18, 3) := by decide +kernel
theorem dX0_takes_39 : decode cX0_takes 39 = .ok (.iload_n 2, 1) := by decide +kernel
theorem dX0_takes_40 : decode cX0_takes 40 = .ok (.aload_n 0, 1) := by decide +kernel
theorem dX0_takes_41 : decode cX0_takes 41 = .ok (.getfield 20, 3) := by decide +kernel
theorem dX0_takes_44 : decode cX0_takes 44 = .ok (.iload_n 3, 1) := by decide +kernel
theorem dX0_takes_45 : decode cX0_takes 45 = .ok (.iconst 2, 1) := by decide +kernel
theorem dX0_takes_46 : decode cX0_takes 46 = .ok (.invokevirtual 66, 3) := by decide +kernel
theorem dX0_takes_49 : decode cX0_takes 49 = .ok (.if_icmp .ge 5, 3) := by decide +kernel
theorem dX0_takes_52 : decode cX0_takes 52 = .ok (.iconst 1, 1) := by decide +kernel
theorem dX0_takes_53 : decode cX0_takes 53 = .ok (.ireturn, 1) := by decide +kernel
theorem dX0_takes_54 : decode cX0_takes 54 = .ok (.iinc 3 1, 3) := by decide +kernel
theorem dX0_takes_57 : decode cX0_takes 57 = .ok (.goto (-55), 3) := by decide +kernel
theorem dX0_takes_60 : decode cX0_takes 60 = .ok (.iconst 0, 1) := by decide +kernel
theorem dX0_takes_61 : decode cX0_takes 61 = .ok (.ireturn, 1) := by decide +kernel
theorem dX0_standsInTheWayOf_0 : decode cX0_standsInTheWayOf 0 = .ok (.aload_n 0, 1) := by decide +kernel
theorem dX0_standsInTheWayOf_1 : decode cX0_standsInTheWayOf 1 = .ok (.iload_n 2, 1) := by decide +kernel
theorem dX0_standsInTheWayOf_2 : decode cX0_standsInTheWayOf 2 = .ok (.invokevirtual 91, 3) := by decide +kernel
theorem dX0_standsInTheWayOf_5 : decode cX0_standsInTheWayOf 5 = .ok (.istore_n 3, 1) := by decide +kernel
theorem dX0_standsInTheWayOf_6 : decode cX0_standsInTheWayOf 6 = .ok (.iload_n 3, 1) := by decide +kernel
theorem dX0_standsInTheWayOf_7 : decode cX0_standsInTheWayOf 7 = .ok (.aload_n 0, 1) := by decide +kernel
theorem dX0_standsInTheWayOf_8 : decode cX0_standsInTheWayOf 8 = .ok (.getfield 20, 3) := by decide +kernel
theorem dX0_standsInTheWayOf_11 : decode cX0_standsInTheWayOf 11 = .ok (.getfield 63, 3) := by decide +kernel
theorem dX0_standsInTheWayOf_14 : decode cX0_standsInTheWayOf 14 = .ok (.if_icmp .ge 98, 3) := by decide +kernel
theorem dX0_standsInTheWayOf_17 : decode cX0_standsInTheWayOf 17 = .ok (.iconst 0, 1) := by decide +kernel
theorem dX0_standsInTheWayOf_18 : decode cX0_standsInTheWayOf 18 = .ok (.istore 4, 2) := by decide +kernel
theorem dX0_standsInTheWayOf_20 : decode cX0_standsInTheWayOf 20 = .ok (.iload 4, 2) := by decide +kernel
theorem dX0_standsInTheWayOf_22 : decode cX0_standsInTheWayOf 22 = .ok (.aload_n 1, 1) := by decide +kernel
theorem dX0_standsInTheWayOf_23 : decode cX0_standsInTheWayOf 23 = .ok (.getfield 20, 3) := by decide +kernel
theorem dX0_standsInTheWayOf_26 : decode cX0_standsInTheWayOf 26 = .ok (.getfield 63, 3) := by decide +kernel
theorem dX0_standsInTheWayOf_29 : decode cX0_standsInTheWayOf 29 = .ok (.if_icmp .ge 77, 3) := by decide +kernel
theorem dX0_standsInTheWayOf_32 : decode cX0_standsInTheWayOf 32 = .ok (.aload_n 0, 1) := by decide +kernel
theorem dX0_standsInTheWayOf_33 : decode cX0_standsInTheWayOf 33 = .ok (.getfield 20, 3) := by decide +kernel
theorem dX0_standsInTheWayOf_36 : decode cX0_standsInTheWayOf 36 = .ok (.iload_n 3, 1) := by decide +kernel
theorem dX0_standsInTheWayOf_37 : decode cX0_standsInTheWayOf 37 = .ok (.iconst 0, 1) := by decide +kernel
theorem dX0_standsInTheWayOf_38 : decode cX0_standsInTheWayOf 38 = .ok (.invokevirtual 66, 3) := by decide +kernel
theorem dX0_standsInTheWayOf_41 : decode cX0_standsInTheWayOf 41 = .ok (.aload_n 1, 1) := by decide +kernel
theorem dX0_standsInTheWayOf_42 : decode cX0_standsInTheWayOf 42 = .ok (.getfield 20, 3) := by decide +kernel
theorem dX0_standsInTheWayOf_45 : decode cX0_standsInTheWayOf 45 = .ok (.iload 4, 2) := by decide +kernel
theorem dX0_standsInTheWayOf_47 : decode cX0_standsInTheWayOf 47 = .ok (.iconst 0, 1) := by decide +kernel
theorem dX0_standsInTheWayOf_48 : decode cX0_standsInTheWayOf 48 = .ok (.invokevirtual 66, 3) := by decide +kernel
theorem dX0_standsInTheWayOf_51 : decode cX0_standsInTheWayOf 51 = .ok (.if_icmp .ne 49, 3) := by decide +kernel
theorem dX0_standsInTheWayOf_54 : decode cX0_standsInTheWayOf 54 = .ok (.aload_n 0, 1) := by decide +kernel
theorem dX0_standsInTheWayOf_55 : decode cX0_standsInTheWayOf 55 = .ok (.getfield 20, 3) := by decide +kernel
theorem dX0_standsInTheWayOf_58 : decode cX0_standsInTheWayOf 58 = .ok (.iload_n 3, 1) := by decide +kernel
theorem dX0_standsInTheWayOf_59 : decode cX0_standsInTheWayOf 59 = .ok (.iconst 1, 1) := by decide +kernel
theorem dX0_standsInTheWayOf_60 : decode cX0_standsInTheWayOf 60 = .ok (.invokevirtual 66, 3) := by decide +kernel
theorem dX0_standsInTheWayOf_63 : decode cX0_standsInTheWayOf 63 = .ok (.aload_n 1, 1) := by decide +kernel
theorem dX0_standsInTheWayOf_64 : decode cX0_standsInTheWayOf 64 = .ok (.getfield 20, 3) := by decide +kernel
theorem dX0_standsInTheWayOf_67 : decode cX0_standsInTheWayOf 67 = .ok (.iload 4, 2) := by decide +kernel
theorem dX0_standsInTheWayOf_69 : decode cX0_standsInTheWayOf 69 = .ok (.iconst 2, 1) := by decide +kernel
theorem dX0_standsInTheWayOf_70 : decode cX0_standsInTheWayOf 70 = .ok (.invokevirtual 66, 3) := by decide +kernel
theorem dX0_standsInTheWayOf_73 : decode cX0_standsInTheWayOf 73 = .ok (.if_icmp .ge 27, 3) := by decide +kernel
theorem dX0_standsInTheWayOf_76 : decode cX0_standsInTheWayOf 76 = .ok (.aload_n 1, 1) := by decide +kernel
theorem dX0_standsInTheWayOf_77 : decode cX0_standsInTheWayOf 77 = .ok (.getfield 20, 3) := by decide +kernel
theorem dX0_standsInTheWayOf_80 : decode cX0_standsInTheWayOf 80 = .ok (.iload 4, 2) := by decide +kernel
theorem dX0_standsInTheWayOf_82 : decode cX0_standsInTheWayOf 82 = .ok (.iconst 1, 1) := by decide +kernel
theorem dX0_standsInTheWayOf_83 : decode cX0_standsInTheWayOf 83 = .ok (.invokevirtual 66, 3) := by decide +kernel
theorem dX0_standsInTheWayOf_86 : decode cX0_standsInTheWayOf 86 = .ok (.aload_n 0, 1) := by decide +kernel
theorem dX0_standsInTheWayOf_87 : decode cX0_standsInTheWayOf 87 = .ok (.getfield 20, 3) := by decide +kernel
theorem dX0_standsInTheWayOf_90 : decode cX0_standsInTheWayOf 90 = .ok (.iload_n 3, 1) := by decide +kernel
theorem dX0_standsInTheWayOf_91 : decode cX0_standsInTheWayOf 91 = .ok (.iconst 2, 1) := by decide +kernel
theorem dX0_standsInTheWayOf_92 : decode cX0_standsInTheWayOf 92 = .ok (.invokevirtual 66, 3) := by decide +kernel
theorem dX0_standsInTheWayOf_95 : decode cX0_standsInTheWayOf 95 = .ok (.if_icmp .ge 5, 3) := by decide +kernel
theorem dX0_standsInTheWayOf_98 : decode cX0_standsInTheWayOf 98 = .ok (.iconst 1, 1) := by decide +kernel
theorem dX0_standsInTheWayOf_99 : decode cX0_standsInTheWayOf 99 = .ok (.ireturn, 1) := by decide +kernel
theorem dX0_standsInTheWayOf_100 : decode cX0_standsInTheWayOf 100 = .ok (.iinc 4 1, 3) := by decide +kernel
theorem dX0_standsInTheWayOf_103 : decode cX0_standsInTheWayOf 103 = .ok (.goto (-83), 3) := by decide +kernel
theorem dX0_standsInTheWayOf_106 : decode cX0_standsInTheWayOf 106 = .ok (.iinc 3 1, 3) := by decide +kernel
theorem dX0_standsInTheWayOf_109 : decode cX0_standsInTheWayOf 109 = .ok (.goto (-103), 3) := by decide +kernel
theorem dX0_standsInTheWayOf_112 : decode cX0_standsInTheWayOf 112 = .ok (.iconst 0, 1) := by decide +kernel
theorem dX0_standsInTheWayOf_113 : decode cX0_standsInTheWayOf 113 = .ok (.ireturn, 1) := by decide +kernel
theorem dX7_reset_0 : decode cX7_reset 0 = .ok (.aload_n 0, 1) := by decide +kernel
theorem dX7_reset_1 : decode cX7_reset 1 = .ok (.iconst 0, 1) := by decide +kernel
theorem dX7_reset_2 : decode cX7_reset 2 = .ok (.putfield 24, 3) := by decide +kernel
theorem dX7_reset_5 : decode cX7_reset 5 = .ok (.aload_n 0, 1) := by decide +kernel
theorem dX7_reset_6 : decode cX7_reset 6 = .ok (.iconst 0, 1) := by decide +kernel
theorem dX7_reset_7 : decode cX7_reset 7 = .ok (.putfield 28, 3) := by decide +kernel
theorem dX7_reset_10 : decode cX7_reset 10 = .ok (.aload_n 0, 1) := by decide +kernel
theorem dX7_reset_11 : decode cX7_reset 11 = .ok (.iconst 0, 1) := by decide +kernel
theorem dX7_reset_12 : decode cX7_reset 12 = .ok (.putfield 31, 3) := by decide +kernel
theorem dX7_reset_15 : decode cX7_reset 15 = .ok (.return_, 1) := by decide +kernel
theorem dX7_copyFrom_0 : decode cX7_copyFrom 0 = .ok (.aload_n 0, 1) := by decide +kernel
theorem dX7_copyFrom_1 : decode cX7_copyFrom 1 = .ok (.aload_n 1, 1) := by decide +kernel
theorem dX7_copyFrom_2 : decode cX7_copyFrom 2 = .ok (.getfield 24, 3) := by decide +kernel
theorem dX7_copyFrom_5 : decode cX7_copyFrom 5 = .ok (.putfield 24, 3) := by decide +kernel
theorem dX7_copyFrom_8 : decode cX7_copyFrom 8 = .ok (.aload_n 0, 1) := by decide +kernel
theorem dX7_copyFrom_9 : decode cX7_copyFrom 9 = .ok (.aload_n 1, 1) := by decide +kernel
theorem dX7_copyFrom_10 : decode cX7_copyFrom 10 = .ok (.getfield 28, 3) := by decide +kernel
theorem dX7_copyFrom_13 : decode cX7_copyFrom 13 = .ok (.putfield 28, 3) := by decide +kernel
theorem dX7_copyFrom_16 : decode cX7_copyFrom 16 = .ok (.aload_n 0, 1) := by decide +kernel
theorem dX7_copyFrom_17 : decode cX7_copyFrom 17 = .ok (.aload_n 1, 1) := by decide +kernel
theorem dX7_copyFrom_18 : decode cX7_copyFrom 18 = .ok (.getfield 31, 3) := by decide +kernel
theorem dX7_copyFrom_21 : decode cX7_copyFrom 21 = .ok (.putfield 31, 3) := by decide +kernel
theorem dX7_copyFrom_24 : decode cX7_copyFrom 24 = .ok (.iconst 0, 1) := by decide +kernel
theorem dX7_copyFrom_25 : decode cX7_copyFrom 25 = .ok (.istore_n 2, 1) := by decide +kernel
theorem dX7_copyFrom_26 : decode cX7_copyFrom 26 = .ok (.iload_n 2, 1) := by decide +kernel
theorem dX7_copyFrom_27 : decode cX7_copyFrom 27 = .ok (.aload_n 0, 1) := by decide +kernel
theorem dX7_copyFrom_28 : decode cX7_copyFrom 28 = .ok (.getfield 24, 3) := by decide +kernel
theorem dX7_copyFrom_31 : decode cX7_copyFrom 31 = .ok (.if_icmp .ge 22, 3) := by decide +kernel
theorem dX7_copyFrom_34 : decode cX7_copyFrom 34 = .ok (.aload_n 0, 1) := by decide +kernel
theorem dX7_copyFrom_35 : decode cX7_copyFrom 35 = .ok (.iload_n 2, 1) := by decide +kernel
theorem dX7_copyFrom_36 : decode cX7_copyFrom 36 = .ok (.invokevirtual 34, 3) := by decide +kernel
theorem dX7_copyFrom_39 : decode cX7_copyFrom 39 = .ok (.aload_n 1, 1) := by decide +kernel
theorem dX7_copyFrom_40 : decode cX7_copyFrom 40 = .ok (.iload_n 2, 1) := by decide +kernel
theorem dX7_copyFrom_41 : decode cX7_copyFrom 41 = .ok (.invokevirtual 34, 3) := by decide +kernel
theorem dX7_copyFrom_44 : decode cX7_copyFrom 44 = .ok (.invokevirtual 38, 3) := by decide +kernel
theorem dX7_copyFrom_47 : decode cX7_copyFrom 47 = .ok (.iinc 2 1, 3) := by decide +kernel
theorem dX7_copyFrom_50 : decode cX7_copyFrom 50 = .ok (.goto (-24), 3) := by decide +kernel
theorem dX7_copyFrom_53 : decode cX7_copyFrom 53 = .ok (.return_, 1) := by decide +kernel
theorem dX7_hasBundle_0 : decode cX7_hasBundle 0 = .ok (.iload_n 1, 1) := by decide +kernel
theorem dX7_hasBundle_1 : decode cX7_hasBundle 1 = .ok (.ifCond .lt 15, 3) := by decide +kernel
theorem dX7_hasBundle_4 : decode cX7_hasBundle 4 = .ok (.iload_n 1, 1) := by decide +kernel
theorem dX7_hasBundle_5 : decode cX7_hasBundle 5 = .ok (.aload_n 0, 1) := by decide +kernel
theorem dX7_hasBundle_6 : decode cX7_hasBundle 6 = .ok (.getfield 24, 3) := by decide +kernel
theorem dX7_hasBundle_9 : decode cX7_hasBundle 9 = .ok (.if_icmp .ge 7, 3) := by decide +kernel
theorem dX7_hasBundle_12 : decode cX7_hasBundle 12 = .ok (.iconst 1, 1) := by decide +kernel
theorem dX7_hasBundle_13 : decode cX7_hasBundle 13 = .ok (.goto 4, 3) := by decide +kernel
theorem dX7_hasBundle_16 : decode cX7_hasBundle 16 = .ok (.iconst 0, 1) := by decide +kernel
theorem dX7_hasBundle_17 : decode cX7_hasBundle 17 = .ok (.ireturn, 1) := by decide +kernel
theorem dX7_bundleAt_0 : decode cX7_bundleAt 0 = .ok (.iload_n 1, 1) := by decide +kernel
theorem dX7_bundleAt_1 : decode cX7_bundleAt 1 = .ok (.ifCond .lt 12, 3) := by decide +kernel
theorem dX7_bundleAt_4 : decode cX7_bundleAt 4 = .ok (.iload_n 1, 1) := by decide +kernel
theorem dX7_bundleAt_5 : decode cX7_bundleAt 5 = .ok (.aload_n 0, 1) := by decide +kernel
theorem dX7_bundleAt_6 : decode cX7_bundleAt 6 = .ok (.getfield 20, 3) := by decide +kernel
theorem dX7_bundleAt_9 : decode cX7_bundleAt 9 = .ok (.arraylength, 1) := by decide +kernel
theorem dX7_bundleAt_10 : decode cX7_bundleAt 10 = .ok (.if_icmp .lt 8, 3) := by decide +kernel
theorem dX7_bundleAt_13 : decode cX7_bundleAt 13 = .ok (.aload_n 0, 1) := by decide +kernel
theorem dX7_bundleAt_14 : decode cX7_bundleAt 14 = .ok (.getfield 14, 3) := by decide +kernel
theorem dX7_bundleAt_17 : decode cX7_bundleAt 17 = .ok (.areturn, 1) := by decide +kernel
theorem dX7_bundleAt_18 : decode cX7_bundleAt 18 = .ok (.aload_n 0, 1) := by decide +kernel
theorem dX7_bundleAt_19 : decode cX7_bundleAt 19 = .ok (.getfield 20, 3) := by decide +kernel
theorem dX7_bundleAt_22 : decode cX7_bundleAt 22 = .ok (.iload_n 1, 1) := by decide +kernel
theorem dX7_bundleAt_23 : decode cX7_bundleAt 23 = .ok (.aaload, 1) := by decide +kernel
theorem dX7_bundleAt_24 : decode cX7_bundleAt 24 = .ok (.astore_n 2, 1) := by decide +kernel
theorem dX7_bundleAt_25 : decode cX7_bundleAt 25 = .ok (.aload_n 2, 1) := by decide +kernel
theorem dX7_bundleAt_26 : decode cX7_bundleAt 26 = .ok (.ifnonnull 10, 3) := by decide +kernel
theorem dX7_bundleAt_29 : decode cX7_bundleAt 29 = .ok (.aload_n 0, 1) := by decide +kernel
theorem dX7_bundleAt_30 : decode cX7_bundleAt 30 = .ok (.getfield 14, 3) := by decide +kernel
theorem dX7_bundleAt_33 : decode cX7_bundleAt 33 = .ok (.goto 4, 3) := by decide +kernel
theorem dX7_bundleAt_36 : decode cX7_bundleAt 36 = .ok (.aload_n 2, 1) := by decide +kernel
theorem dX7_bundleAt_37 : decode cX7_bundleAt 37 = .ok (.areturn, 1) := by decide +kernel
theorem dX7_addBundle_0 : decode cX7_addBundle 0 = .ok (.aload_n 0, 1) := by decide +kernel
theorem dX7_addBundle_1 : decode cX7_addBundle 1 = .ok (.dup, 1) := by decide +kernel
theorem dX7_addBundle_2 : decode cX7_addBundle 2 = .ok (.getfield 24, 3) := by decide +kernel
theorem dX7_addBundle_5 : decode cX7_addBundle 5 = .ok (.iconst 1, 1) := by decide +kernel
theorem dX7_addBundle_6 : decode cX7_addBundle 6 = .ok (.iadd, 1) := by decide +kernel
theorem dX7_addBundle_7 : decode cX7_addBundle 7 = .ok (.putfield 24, 3) := by decide +kernel
theorem dX7_addBundle_10 : decode cX7_addBundle 10 = .ok (.aload_n 0, 1) := by decide +kernel
theorem dX7_addBundle_11 : decode cX7_addBundle 11 = .ok (.getfield 24, 3) := by decide +kernel
theorem dX7_addBundle_14 : decode cX7_addBundle 14 = .ok (.iconst 1, 1) := by decide +kernel
theorem dX7_addBundle_15 : decode cX7_addBundle 15 = .ok (.isub, 1) := by decide +kernel
theorem dX7_addBundle_16 : decode cX7_addBundle 16 = .ok (.ireturn, 1) := by decide +kernel
theorem dX7_isMissed_0 : decode cX7_isMissed 0 = .ok (.aload_n 0, 1) := by decide +kernel
theorem dX7_isMissed_1 : decode cX7_isMissed 1 = .ok (.getfield 31, 3) := by decide +kernel
theorem dX7_isMissed_4 : decode cX7_isMissed 4 = .ok (.iload_n 1, 1) := by decide +kernel
theorem dX7_isMissed_5 : decode cX7_isMissed 5 = .ok (.ishr, 1) := by decide +kernel
theorem dX7_isMissed_6 : decode cX7_isMissed 6 = .ok (.iconst 1, 1) := by decide +kernel
theorem dX7_isMissed_7 : decode cX7_isMissed 7 = .ok (.iand, 1) := by decide +kernel
theorem dX7_isMissed_8 : decode cX7_isMissed 8 = .ok (.iconst 1, 1) := by decide +kernel
theorem dX7_isMissed_9 : decode cX7_isMissed 9 = .ok (.if_icmp .ne 7, 3) := by decide +kernel
theorem dX7_isMissed_12 : decode cX7_isMissed 12 = .ok (.iconst 1, 1) := by decide +kernel
theorem dX7_isMissed_13 : decode cX7_isMissed 13 = .ok (.goto 4, 3) := by decide +kernel
theorem dX7_isMissed_16 : decode cX7_isMissed 16 = .ok (.iconst 0, 1) := by decide +kernel
theorem dX7_isMissed_17 : decode cX7_isMissed 17 = .ok (.ireturn, 1) := by decide +kernel
theorem dX7_isOpen_0 : decode cX7_isOpen 0 = .ok (.aload_n 0, 1) := by decide +kernel
theorem dX7_isOpen_1 : decode cX7_isOpen 1 = .ok (.iload_n 1, 1) := by decide +kernel
theorem dX7_isOpen_2 : decode cX7_isOpen 2 = .ok (.invokevirtual 34, 3) := by decide +kernel
theorem dX7_isOpen_5 : decode cX7_isOpen 5 = .ok (.aload_n 0, 1) := by decide +kernel
theorem dX7_isOpen_6 : decode cX7_isOpen 6 = .ok (.getfield 28, 3) := by decide +kernel
theorem dX7_isOpen_9 : decode cX7_isOpen 9 = .ok (.invokevirtual 42, 3) := by decide +kernel
theorem dX7_isOpen_12 : decode cX7_isOpen 12 = .ok (.istore_n 2, 1) := by decide +kernel
theorem dX7_isOpen_13 : decode cX7_isOpen 13 = .ok (.iload_n 2, 1) := by decide +kernel
theorem dX7_isOpen_14 : decode cX7_isOpen 14 = .ok (.ifCond .eq 8, 3) := by decide +kernel
theorem dX7_isOpen_17 : decode cX7_isOpen 17 = .ok (.iload_n 2, 1) := by decide +kernel
theorem dX7_isOpen_18 : decode cX7_isOpen 18 = .ok (.iconst 1, 1) := by decide +kernel
theorem dX7_isOpen_19 : decode cX7_isOpen 19 = .ok (.if_icmp .ne 7, 3) := by decide +kernel
theorem dX7_isOpen_22 : decode cX7_isOpen 22 = .ok (.iconst 1, 1) := by decide +kernel
theorem dX7_isOpen_23 : decode cX7_isOpen 23 = .ok (.goto 4, 3) := by decide +kernel
theorem dX7_isOpen_26 : decode cX7_isOpen 26 = .ok (.iconst 0, 1) := by decide +kernel
theorem dX7_isOpen_27 : decode cX7_isOpen 27 = .ok (.ireturn, 1) := by decide +kernel
theorem dX7_countStanding_0 : decode cX7_countStanding 0 = .ok (.aload_n 0, 1) := by decide +kernel
theorem dX7_countStanding_1 : decode cX7_countStanding 1 = .ok (.iload_n 1, 1) := by decide +kernel
theorem dX7_countStanding_2 : decode cX7_countStanding 2 = .ok (.invokevirtual 46, 3) := by decide +kernel
theorem dX7_countStanding_5 : decode cX7_countStanding 5 = .ok (.invokestatic 49, 3) := by decide +kernel
theorem dX7_countStanding_8 : decode cX7_countStanding 8 = .ok (.ireturn, 1) := by decide +kernel
theorem dX7_allStanding_0 : decode cX7_allStanding 0 = .ok (.iconst 0, 1) := by decide +kernel
theorem dX7_allStanding_1 : decode cX7_allStanding 1 = .ok (.istore_n 2, 1) := by decide +kernel
theorem dX7_allStanding_2 : decode cX7_allStanding 2 = .ok (.iconst 0, 1) := by decide +kernel
theorem dX7_allStanding_3 : decode cX7_allStanding 3 = .ok (.istore_n 3, 1) := by decide +kernel
theorem dX7_allStanding_4 : decode cX7_allStanding 4 = .ok (.iload_n 3, 1) := by decide +kernel
theorem dX7_allStanding_5 : decode cX7_allStanding 5 = .ok (.aload_n 0, 1) := by decide +kernel
theorem dX7_allStanding_6 : decode cX7_allStanding 6 = .ok (.getfield 24, 3) := by decide +kernel
theorem dX7_allStanding_9 : decode cX7_allStanding 9 = .ok (.if_icmp .ge 31, 3) := by decide +kernel
theorem dX7_allStanding_12 : decode cX7_allStanding 12 = .ok (.aload_n 0, 1) := by decide +kernel
theorem dX7_allStanding_13 : decode cX7_allStanding 13 = .ok (.iload_n 3, 1) := by decide +kernel
theorem dX7_allStanding_14 : decode cX7_allStanding 14 = .ok (.invokevirtual 34, 3) := by decide +kernel
theorem dX7_allStanding_17 : decode cX7_allStanding 17 = .ok (.aload_n 0, 1) := by decide +kernel
theorem dX7_allStanding_18 : decode cX7_allStanding 18 = .ok (.getfield 28, 3) := by decide +kernel
theorem dX7_allStanding_21 : decode cX7_allStanding 21 = .ok (.invokevirtual 42, 3) := by decide +kernel
theorem dX7_allStanding_24 : decode cX7_allStanding 24 = .ok (.iload_n 1, 1) := by decide +kernel
theorem dX7_allStanding_25 : decode cX7_allStanding 25 = .ok (.if_icmp .ne 9, 3) := by decide +kernel
theorem dX7_allStanding_28 : decode cX7_allStanding 28 = .ok (.iload_n 2, 1) := by decide +kernel
theorem dX7_allStanding_29 : decode cX7_allStanding 29 = .ok (.iconst 1, 1) := by decide +kernel
theorem dX7_allStanding_30 : decode cX7_allStanding 30 = .ok (.iload_n 3, 1) := by decide +kernel
theorem dX7_allStanding_31 : decode cX7_allStanding 31 = .ok (.ishl, 1) := by decide +kernel
theorem dX7_allStanding_32 : decode cX7_allStanding 32 = .ok (.ior, 1) := by decide +kernel
theorem dX7_allStanding_33 : decode cX7_allStanding 33 = .ok (.istore_n 2, 1) := by decide +kernel
theorem dX7_allStanding_34 : decode cX7_allStanding 34 = .ok (.iinc 3 1, 3) := by decide +kernel
theorem dX7_allStanding_37 : decode cX7_allStanding 37 = .ok (.goto (-33), 3) := by decide +kernel
theorem dX7_allStanding_40 : decode cX7_allStanding 40 = .ok (.iload_n 2, 1) := by decide +kernel
theorem dX7_allStanding_41 : decode cX7_allStanding 41 = .ok (.ireturn, 1) := by decide +kernel
theorem dX7_tickAtGoal_0 : decode cX7_tickAtGoal 0 = .ok (.aload_n 0, 1) := by decide +kernel
theorem dX7_tickAtGoal_1 : decode cX7_tickAtGoal 1 = .ok (.iload_n 1, 1) := by decide +kernel
theorem dX7_tickAtGoal_2 : decode cX7_tickAtGoal 2 = .ok (.invokevirtual 34, 3) := by decide +kernel
theorem dX7_tickAtGoal_5 : decode cX7_tickAtGoal 5 = .ok (.aload_n 0, 1) := by decide +kernel
theorem dX7_tickAtGoal_6 : decode cX7_tickAtGoal 6 = .ok (.getfield 28, 3) := by decide +kernel
theorem dX7_tickAtGoal_9 : decode cX7_tickAtGoal 9 = .ok (.invokevirtual 42, 3) := by decide +kernel
theorem dX7_tickAtGoal_12 : decode cX7_tickAtGoal 12 = .ok (.istore_n 2, 1) := by decide +kernel
theorem dX7_tickAtGoal_13 : decode cX7_tickAtGoal 13 = .ok (.iload_n 2, 1) := by decide +kernel
theorem dX7_tickAtGoal_14 : decode cX7_tickAtGoal 14 = .ok (.iconst 2, 1) := by decide +kernel
theorem dX7_tickAtGoal_15 : decode cX7_tickAtGoal 15 = .ok (.if_icmp .ne 8, 3) := by decide +kernel
theorem dX7_tickAtGoal_18 : decode cX7_tickAtGoal 18 = .ok (.aload_n 0, 1) := by decide +kernel
theorem dX7_tickAtGoal_19 : decode cX7_tickAtGoal 19 = .ok (.getfield 28, 3) := by decide +kernel
theorem dX7_tickAtGoal_22 : decode cX7_tickAtGoal 22 = .ok (.ireturn, 1) := by decide +kernel
theorem dX7_tickAtGoal_23 : decode cX7_tickAtGoal 23 = .ok (.iload_n 2, 1) := by decide +kernel
theorem dX7_tickAtGoal_24 : decode cX7_tickAtGoal 24 = .ok (.iconst 1, 1) := by decide +kernel
theorem dX7_tickAtGoal_25 : decode cX7_tickAtGoal 25 = .ok (.if_icmp .ne 14, 3) := by decide +kernel
theorem dX7_tickAtGoal_28 : decode cX7_tickAtGoal 28 = .ok (.aload_n 0, 1) := by decide +kernel
theorem dX7_tickAtGoal_29 : decode cX7_tickAtGoal 29 = .ok (.iload_n 1, 1) := by decide +kernel
theorem dX7_tickAtGoal_30 : decode cX7_tickAtGoal 30 = .ok (.invokevirtual 34, 3) := by decide +kernel
theorem dX7_tickAtGoal_33 : decode cX7_tickAtGoal 33 = .ok (.invokevirtual 54, 3) := by decide +kernel
theorem dX7_tickAtGoal_36 : decode cX7_tickAtGoal 36 = .ok (.goto 5, 3) := by decide +kernel
theorem dX7_tickAtGoal_39 : decode cX7_tickAtGoal 39 = .ok (.bipush (-9), 2) := by decide +kernel
theorem dX7_tickAtGoal_41 : decode cX7_tickAtGoal 41 = .ok (.ireturn, 1) := by decide +kernel
theorem dX7_takerOf_0 : decode cX7_takerOf 0 = .ok (.iconst 0, 1) := by decide +kernel
theorem dX7_takerOf_1 : decode cX7_takerOf 1 = .ok (.istore_n 3, 1) := by decide +kernel
theorem dX7_takerOf_2 : decode cX7_takerOf 2 = .ok (.iload_n 3, 1) := by decide +kernel
theorem dX7_takerOf_3 : decode cX7_takerOf 3 = .ok (.aload_n 0, 1) := by decide +kernel
theorem dX7_takerOf_4 : decode cX7_takerOf 4 = .ok (.getfield 24, 3) := by decide +kernel
theorem dX7_takerOf_7 : decode cX7_takerOf 7 = .ok (.if_icmp .ge 24, 3) := by decide +kernel
theorem dX7_takerOf_10 : decode cX7_takerOf 10 = .ok (.aload_n 0, 1) := by decide +kernel
theorem dX7_takerOf_11 : decode cX7_takerOf 11 = .ok (.iload_n 3, 1) := by decide +kernel
theorem dX7_takerOf_12 : decode cX7_takerOf 12 = .ok (.invokevirtual 34, 3) := by decide +kernel
theorem dX7_takerOf_15 : decode cX7_takerOf 15 = .ok (.iload_n 1, 1) := by decide +kernel
theorem dX7_takerOf_16 : decode cX7_takerOf 16 = .ok (.iload_n 2, 1) := by decide +kernel
theorem dX7_takerOf_17 : decode cX7_takerOf 17 = .ok (.invokevirtual 58, 3) := by decide +kernel
theorem dX7_takerOf_20 : decode cX7_takerOf 20 = .ok (.ifCond .eq 5, 3) := by decide +kernel
theorem dX7_takerOf_23 : decode cX7_takerOf 23 = .ok (.iload_n 3, 1) := by decide +kernel
theorem dX7_takerOf_24 : decode cX7_takerOf 24 = .ok (.ireturn, 1) := by decide +kernel
theorem dX7_takerOf_25 : decode cX7_takerOf 25 = .ok (.iinc 3 1, 3) := by decide +kernel
theorem dX7_takerOf_28 : decode cX7_takerOf 28 = .ok (.goto (-26), 3) := by decide +kernel
theorem dX7_takerOf_31 : decode cX7_takerOf 31 = .ok (.bipush (-9), 2) := by decide +kernel
theorem dX7_takerOf_33 : decode cX7_takerOf 33 = .ok (.ireturn, 1) := by decide +kernel
theorem dX7_advance_0 : decode cX7_advance 0 = .ok (.aload_n 0, 1) := by decide +kernel
theorem dX7_advance_1 : decode cX7_advance 1 = .ok (.dup, 1) := by decide +kernel
theorem dX7_advance_2 : decode cX7_advance 2 = .ok (.getfield 28, 3) := by decide +kernel
theorem dX7_advance_5 : decode cX7_advance 5 = .ok (.iload_n 1, 1) := by decide +kernel
theorem dX7_advance_6 : decode cX7_advance 6 = .ok (.iadd, 1) := by decide +kernel
theorem dX7_advance_7 : decode cX7_advance 7 = .ok (.putfield 28, 3) := by decide +kernel
theorem dX7_advance_10 : decode cX7_advance 10 = .ok (.iconst 0, 1) := by decide +kernel
theorem dX7_advance_11 : decode cX7_advance 11 = .ok (.istore_n 2, 1) := by decide +kernel
theorem dX7_advance_12 : decode cX7_advance 12 = .ok (.iload_n 2, 1) := by decide +kernel
theorem dX7_advance_13 : decode cX7_advance 13 = .ok (.aload_n 0, 1) := by decide +kernel
theorem dX7_advance_14 : decode cX7_advance 14 = .ok (.getfield 24, 3) := by decide +kernel
theorem dX7_advance_17 : decode cX7_advance 17 = .ok (.if_icmp .ge 21, 3) := by decide +kernel
theorem dX7_advance_20 : decode cX7_advance 20 = .ok (.aload_n 0, 1) := by decide +kernel
theorem dX7_advance_21 : decode cX7_advance 21 = .ok (.iload_n 2, 1) := by decide +kernel
theorem dX7_advance_22 : decode cX7_advance 22 = .ok (.invokevirtual 34, 3) := by decide +kernel
theorem dX7_advance_25 : decode cX7_advance 25 = .ok (.aload_n 0, 1) := by decide +kernel
theorem dX7_advance_26 : decode cX7_advance 26 = .ok (.getfield 28, 3) := by decide +kernel
theorem dX7_advance_29 : decode cX7_advance 29 = .ok (.invokevirtual 62, 3) := by decide +kernel
theorem dX7_advance_32 : decode cX7_advance 32 = .ok (.iinc 2 1, 3) := by decide +kernel
theorem dX7_advance_35 : decode cX7_advance 35 = .ok (.goto (-23), 3) := by decide +kernel
theorem dX7_advance_38 : decode cX7_advance 38 = .ok (.return_, 1) := by decide +kernel
theorem dX7_lose_0 : decode cX7_lose 0 = .ok (.aload_n 0, 1) := by decide +kernel
theorem dX7_lose_1 : decode cX7_lose 1 = .ok (.dup, 1) := by decide +kernel
theorem dX7_lose_2 : decode cX7_lose 2 = .ok (.getfield 31, 3) := by decide +kernel
theorem dX7_lose_5 : decode cX7_lose 5 = .ok (.iconst 1, 1) := by decide +kernel
theorem dX7_lose_6 : decode cX7_lose 6 = .ok (.iload_n 1, 1) := by decide +kernel
theorem dX7_lose_7 : decode cX7_lose 7 = .ok (.ishl, 1) := by decide +kernel
theorem dX7_lose_8 : decode cX7_lose 8 = .ok (.ior, 1) := by decide +kernel
theorem dX7_lose_9 : decode cX7_lose 9 = .ok (.putfield 31, 3) := by decide +kernel
theorem dX7_lose_12 : decode cX7_lose 12 = .ok (.iconst 0, 1) := by decide +kernel
theorem dX7_lose_13 : decode cX7_lose 13 = .ok (.istore_n 2, 1) := by decide +kernel
theorem dX7_lose_14 : decode cX7_lose 14 = .ok (.iconst 0, 1) := by decide +kernel
theorem dX7_lose_15 : decode cX7_lose 15 = .ok (.istore_n 3, 1) := by decide +kernel
theorem dX7_lose_16 : decode cX7_lose 16 = .ok (.iload_n 3, 1) := by decide +kernel
theorem dX7_lose_17 : decode cX7_lose 17 = .ok (.aload_n 0, 1) := by decide +kernel
theorem dX7_lose_18 : decode cX7_lose 18 = .ok (.getfield 24, 3) := by decide +kernel
theorem dX7_lose_21 : decode cX7_lose 21 = .ok (.if_icmp .ge 39, 3) := by decide +kernel
theorem dX7_lose_24 : decode cX7_lose 24 = .ok (.aload_n 0, 1) := by decide +kernel
theorem dX7_lose_25 : decode cX7_lose 25 = .ok (.iload_n 3, 1) := by decide +kernel
theorem dX7_lose_26 : decode cX7_lose 26 = .ok (.invokevirtual 34, 3) := by decide +kernel
theorem dX7_lose_29 : decode cX7_lose 29 = .ok (.iload_n 1, 1) := by decide +kernel
theorem dX7_lose_30 : decode cX7_lose 30 = .ok (.aload_n 0, 1) := by decide +kernel
theorem dX7_lose_31 : decode cX7_lose 31 = .ok (.getfield 28, 3) := by decide +kernel
theorem dX7_lose_34 : decode cX7_lose 34 = .ok (.invokevirtual 66, 3) := by decide +kernel
theorem dX7_lose_37 : decode cX7_lose 37 = .ok (.ifCond .eq 17, 3) := by decide +kernel
theorem dX7_lose_40 : decode cX7_lose 40 = .ok (.aload_n 0, 1) := by decide +kernel
theorem dX7_lose_41 : decode cX7_lose 41 = .ok (.iload_n 3, 1) := by decide +kernel
theorem dX7_lose_42 : decode cX7_lose 42 = .ok (.invokevirtual 69, 3) := by decide +kernel
theorem dX7_lose_45 : decode cX7_lose 45 = .ok (.ifCond .eq 9, 3) := by decide +kernel
theorem dX7_lose_48 : decode cX7_lose 48 = .ok (.iload_n 2, 1) := by decide +kernel
theorem dX7_lose_49 : decode cX7_lose 49 = .ok (.iconst 1, 1) := by decide +kernel
theorem dX7_lose_50 : decode cX7_lose 50 = .ok (.iload_n 3, 1) := by decide +kernel
theorem dX7_lose_51 : decode cX7_lose 51 = .ok (.ishl, 1) := by decide +kernel
theorem dX7_lose_52 : decode cX7_lose 52 = .ok (.ior, 1) := by decide +kernel
theorem dX7_lose_53 : decode cX7_lose 53 = .ok (.istore_n 2, 1) := by decide +kernel
theorem dX7_lose_54 : decode cX7_lose 54 = .ok (.iinc 3 1, 3) := by decide +kernel
theorem dX7_lose_57 : decode cX7_lose 57 = .ok (.goto (-41), 3) := by decide +kernel
theorem dX7_lose_60 : decode cX7_lose 60 = .ok (.iload_n 2, 1) := by decide +kernel
theorem dX7_lose_61 : decode cX7_lose 61 = .ok (.ireturn, 1) := by decide +kernel
theorem dX7_regain_0 : decode cX7_regain 0 = .ok (.aload_n 0, 1) := by decide +kernel
theorem dX7_regain_1 : decode cX7_regain 1 = .ok (.dup, 1) := by decide +kernel
theorem dX7_regain_2 : decode cX7_regain 2 = .ok (.getfield 31, 3) := by decide +kernel
theorem dX7_regain_5 : decode cX7_regain 5 = .ok (.iconst 1, 1) := by decide +kernel
theorem dX7_regain_6 : decode cX7_regain 6 = .ok (.iload_n 1, 1) := by decide +kernel
theorem dX7_regain_7 : decode cX7_regain 7 = .ok (.ishl, 1) := by decide +kernel
theorem dX7_regain_8 : decode cX7_regain 8 = .ok (.iconst (-1), 1) := by decide +kernel
theorem dX7_regain_9 : decode cX7_regain 9 = .ok (.ixor, 1) := by decide +kernel
theorem dX7_regain_10 : decode cX7_regain 10 = .ok (.iand, 1) := by decide +kernel
theorem dX7_regain_11 : decode cX7_regain 11 = .ok (.putfield 31, 3) := by decide +kernel
theorem dX7_regain_14 : decode cX7_regain 14 = .ok (.aload_n 0, 1) := by decide +kernel
theorem dX7_regain_15 : decode cX7_regain 15 = .ok (.iconst 0, 1) := by decide +kernel
theorem dX7_regain_16 : decode cX7_regain 16 = .ok (.invokevirtual 46, 3) := by decide +kernel
theorem dX7_regain_19 : decode cX7_regain 19 = .ok (.ireturn, 1) := by decide +kernel
theorem dX2_forgetAll_0 : decode cX2_forgetAll 0 = .ok (.aload_n 0, 1) := by decide +kernel
theorem dX2_forgetAll_1 : decode cX2_forgetAll 1 = .ok (.iconst 0, 1) := by decide +kernel
theorem dX2_forgetAll_2 : decode cX2_forgetAll 2 = .ok (.putfield 28, 3) := by decide +kernel
theorem dX2_forgetAll_5 : decode cX2_forgetAll 5 = .ok (.return_, 1) := by decide +kernel
theorem dX2_remember_0 : decode cX2_remember 0 = .ok (.aload_n 0, 1) := by decide +kernel
theorem dX2_remember_1 : decode cX2_remember 1 = .ok (.aload_n 0, 1) := by decide +kernel
theorem dX2_remember_2 : decode cX2_remember 2 = .ok (.getfield 24, 3) := by decide +kernel
theorem dX2_remember_5 : decode cX2_remember 5 = .ok (.invokevirtual 31, 3) := by decide +kernel
theorem dX2_remember_8 : decode cX2_remember 8 = .ok (.aload_n 1, 1) := by decide +kernel
theorem dX2_remember_9 : decode cX2_remember 9 = .ok (.invokevirtual 35, 3) := by decide +kernel
theorem dX2_remember_12 : decode cX2_remember 12 = .ok (.aload_n 0, 1) := by decide +kernel
theorem dX2_remember_13 : decode cX2_remember 13 = .ok (.aload_n 0, 1) := by decide +kernel
theorem dX2_remember_14 : decode cX2_remember 14 = .ok (.getfield 24, 3) := by decide +kernel
theorem dX2_remember_17 : decode cX2_remember 17 = .ok (.iconst 1, 1) := by decide +kernel
theorem dX2_remember_18 : decode cX2_remember 18 = .ok (.iadd, 1) := by decide +kernel
theorem dX2_remember_19 : decode cX2_remember 19 = .ok (.bipush 8, 2) := by decide +kernel
theorem dX2_remember_21 : decode cX2_remember 21 = .ok (.irem, 1) := by decide +kernel
theorem dX2_remember_22 : decode cX2_remember 22 = .ok (.putfield 24, 3) := by decide +kernel
theorem dX2_remember_25 : decode cX2_remember 25 = .ok (.aload_n 0, 1) := by decide +kernel
theorem dX2_remember_26 : decode cX2_remember 26 = .ok (.aload_n 0, 1) := by decide +kernel
theorem dX2_remember_27 : decode cX2_remember 27 = .ok (.getfield 28, 3) := by decide +kernel
theorem dX2_remember_30 : decode cX2_remember 30 = .ok (.iconst 1, 1) := by decide +kernel
theorem dX2_remember_31 : decode cX2_remember 31 = .ok (.iadd, 1) := by decide +kernel
theorem dX2_remember_32 : decode cX2_remember 32 = .ok (.bipush 8, 2) := by decide +kernel
theorem dX2_remember_34 : decode cX2_remember 34 = .ok (.invokestatic 39, 3) := by decide +kernel
theorem dX2_remember_37 : decode cX2_remember 37 = .ok (.putfield 28, 3) := by decide +kernel
theorem dX2_remember_40 : decode cX2_remember 40 = .ok (.return_, 1) := by decide +kernel
theorem dX2_takeBack_0 : decode cX2_takeBack 0 = .ok (.aload_n 0, 1) := by decide +kernel
theorem dX2_takeBack_1 : decode cX2_takeBack 1 = .ok (.aload_n 0, 1) := by decide +kernel
theorem dX2_takeBack_2 : decode cX2_takeBack 2 = .ok (.getfield 24, 3) := by decide +kernel
theorem dX2_takeBack_5 : decode cX2_takeBack 5 = .ok (.bipush 8, 2) := by decide +kernel
theorem dX2_takeBack_7 : decode cX2_takeBack 7 = .ok (.iadd, 1) := by decide +kernel
theorem dX2_takeBack_8 : decode cX2_takeBack 8 = .ok (.iconst 1, 1) := by decide +kernel
theorem dX2_takeBack_9 : decode cX2_takeBack 9 = .ok (.isub, 1) := by decide +kernel
theorem dX2_takeBack_10 : decode cX2_takeBack 10 = .ok (.bipush 8, 2) := by decide +kernel
theorem dX2_takeBack_12 : decode cX2_takeBack 12 = .ok (.irem, 1) := by decide +kernel
theorem dX2_takeBack_13 : decode cX2_takeBack 13 = .ok (.putfield 24, 3) := by decide +kernel
theorem dX2_takeBack_16 : decode cX2_takeBack 16 = .ok (.aload_n 1, 1) := by decide +kernel
theorem dX2_takeBack_17 : decode cX2_takeBack 17 = .ok (.aload_n 0, 1) := by decide +kernel
theorem dX2_takeBack_18 : decode cX2_takeBack 18 = .ok (.aload_n 0, 1) := by decide +kernel
theorem dX2_takeBack_19 : decode cX2_takeBack 19 = .ok (.getfield 24, 3) := by decide +kernel
theorem dX2_takeBack_22 : decode cX2_takeBack 22 = .ok (.invokevirtual 31, 3) := by decide +kernel
theorem dX2_takeBack_25 : decode cX2_takeBack 25 = .ok (.invokevirtual 35, 3) := by decide +kernel
theorem dX2_takeBack_28 : decode cX2_takeBack 28 = .ok (.aload_n 0, 1) := by decide +kernel
theorem dX2_takeBack_29 : decode cX2_takeBack 29 = .ok (.dup, 1) := by decide +kernel
theorem dX2_takeBack_30 : decode cX2_takeBack 30 = .ok (.getfield 28, 3) := by decide +kernel
theorem dX2_takeBack_33 : decode cX2_takeBack 33 = .ok (.iconst 1, 1) := by decide +kernel
theorem dX2_takeBack_34 : decode cX2_takeBack 34 = .ok (.isub, 1) := by decide +kernel
theorem dX2_takeBack_35 : decode cX2_takeBack 35 = .ok (.putfield 28, 3) := by decide +kernel
theorem dX2_takeBack_38 : decode cX2_takeBack 38 = .ok (.return_, 1) := by decide +kernel
theorem dX2_slotAt_0 : decode cX2_slotAt 0 = .ok (.iload_n 1, 1) := by decide +kernel
theorem dX2_slotAt_1 : decode cX2_slotAt 1 = .ok (.ifCond .lt 12, 3) := by decide +kernel
theorem dX2_slotAt_4 : decode cX2_slotAt 4 = .ok (.iload_n 1, 1) := by decide +kernel
theorem dX2_slotAt_5 : decode cX2_slotAt 5 = .ok (.aload_n 0, 1) := by decide +kernel
theorem dX2_slotAt_6 : decode cX2_slotAt 6 = .ok (.getfield 20, 3) := by decide +kernel
theorem dX2_slotAt_9 : decode cX2_slotAt 9 = .ok (.arraylength, 1) := by decide +kernel
theorem dX2_slotAt_10 : decode cX2_slotAt 10 = .ok (.if_icmp .lt 8, 3) := by decide +kernel
theorem dX2_slotAt_13 : decode cX2_slotAt 13 = .ok (.aload_n 0, 1) := by decide +kernel
theorem dX2_slotAt_14 : decode cX2_slotAt 14 = .ok (.getfield 14, 3) := by decide +kernel
theorem dX2_slotAt_17 : decode cX2_slotAt 17 = .ok (.areturn, 1) := by decide +kernel
theorem dX2_slotAt_18 : decode cX2_slotAt 18 = .ok (.aload_n 0, 1) := by decide +kernel
theorem dX2_slotAt_19 : decode cX2_slotAt 19 = .ok (.getfield 20, 3) := by decide +kernel
theorem dX2_slotAt_22 : decode cX2_slotAt 22 = .ok (.iload_n 1, 1) := by decide +kernel
theorem dX2_slotAt_23 : decode cX2_slotAt 23 = .ok (.aaload, 1) := by decide +kernel
theorem dX2_slotAt_24 : decode cX2_slotAt 24 = .ok (.astore_n 2, 1) := by decide +kernel
theorem dX2_slotAt_25 : decode cX2_slotAt 25 = .ok (.aload_n 2, 1) := by decide +kernel
theorem dX2_slotAt_26 : decode cX2_slotAt 26 = .ok (.ifnonnull 10, 3) := by decide +kernel
theorem dX2_slotAt_29 : decode cX2_slotAt 29 = .ok (.aload_n 0, 1) := by decide +kernel
theorem dX2_slotAt_30 : decode cX2_slotAt 30 = .ok (.getfield 14, 3) := by decide +kernel
theorem dX2_slotAt_33 : decode cX2_slotAt 33 = .ok (.goto 4, 3) := by decide +kernel
theorem dX2_slotAt_36 : decode cX2_slotAt 36 = .ok (.aload_n 2, 1) := by decide +kernel
theorem dX2_slotAt_37 : decode cX2_slotAt 37 = .ok (.areturn, 1) := by decide +kernel
theorem m_X3_reset {G : GT} (hg : gx G = FX) {n : Nat} {μ : Mem} {Q : Nat → Mem → Prop} {v0 : Int} (o0 : St v0 3 4) (h : (Q n (up (up μ v0 2 0) v0 3 2))) : CV G Y_X3_reset [.inr v0] n μ Q := by
  refine e_V (by decide) (Nat.le_of_ble_eq_true rfl) ?_
  show Wa G Y_X3_reset (ZV G Y_X3_reset Q) 0 0 n μ 0 [(0, .inr v0)] []
  refine a_aload_n (k := 0) dX3_reset_0 rfl rfl ?_
  refine a_iconst dX3_reset_1 (by decide) ?_
  refine p_X3_24 rfl dX3_reset_2 (St_ho hg o0) (FX_put hg o0 rfl) ?_
  refine a_aload_n (k := 0) dX3_reset_5 rfl rfl ?_
  refine a_iconst dX3_reset_6 (by decide) ?_
  refine p_X3_28 rfl dX3_reset_7 (St_ho hg o0) (FX_put hg o0 rfl) ?_
  exact a_ret dX3_reset_10 rfl (Nat.le_of_ble_eq_true rfl) (Nat.le_of_ble_eq_true rfl) h
theorem m_X3_hasNode {G : GT} (hg : gx G = FX) {n : Nat} {μ : Mem} {Q : Int → Nat → Mem → Prop} {v0 v1 : Int} (o0 : St v0 3 4) (h : ((v1 < 0 → (Q 0 n μ)) ∧ (¬ (v1 < 0) → (((μ v0 3) ≤ v1 → (Q 0 n μ)) ∧ (¬ ((μ v0 3) ≤ v1) → (Q 1 n μ)))))) : CI G Y_X3_hasNode [.inr v0, .inl v1] n μ Q := by
  refine e_I (by decide) (Nat.le_of_ble_eq_true rfl) ?_
  show Wa G Y_X3_hasNode (ZI G Y_X3_hasNode Q) 0 0 n μ 0 [(0, .inr v0), (1, .inl v1)] []
  refine a_iload_n (k := 1) dX3_hasNode_0 rfl rfl ?_
  refine a_if_lt (tgt := 16) dX3_hasNode_1 (by decide) (fun c1 => ?_) (fun c1 => ?_)
  · replace h := h.1 c1
    refine a_iconst dX3_hasNode_16 (by decide) ?_
    exact a_zret dX3_hasNode_17 rfl (Nat.le_of_ble_eq_true rfl) (Nat.le_of_ble_eq_true rfl) (by decide) h
  · replace h := h.2 c1
    refine a_iload_n (k := 1) dX3_hasNode_4 rfl rfl ?_
    refine a_aload_n (k := 0) dX3_hasNode_5 rfl rfl ?_
    refine g_X3_28 rfl dX3_hasNode_6 (St_ho hg o0) ?_
    refine a_icmp_ge (tgt := 16) dX3_hasNode_9 (by decide) (fun c2 => ?_) (fun c2 => ?_)
    · replace h := h.1 c2
      refine a_iconst dX3_hasNode_16 (by decide) ?_
      exact a_zret dX3_hasNode_17 rfl (Nat.le_of_ble_eq_true rfl) (Nat.le_of_ble_eq_true rfl) (by decide) h
    · replace h := h.2 c2
      refine a_iconst dX3_hasNode_12 (by decide) ?_
      refine a_goto (tgt := 17) dX3_hasNode_13 (by decide) ?_
      exact a_zret dX3_hasNode_17 rfl (Nat.le_of_ble_eq_true rfl) (Nat.le_of_ble_eq_true rfl) (by decide) h
theorem m_X3_hasContact {G : GT} (hg : gx G = FX) {n : Nat} {μ : Mem} {Q : Int → Nat → Mem → Prop} {v0 v1 : Int} (o0 : St v0 3 4) (h : ((v1 < 0 → (Q 0 n μ)) ∧ (¬ (v1 < 0) → (((μ v0 2) ≤ v1 → (Q 0 n μ)) ∧ (¬ ((μ v0 2) ≤ v1) → (Q 1 n μ)))))) : CI G Y_X3_hasContact [.inr v0, .inl v1] n μ Q := by
  refine e_I (by decide) (Nat.le_of_ble_eq_true rfl) ?_
  show Wa G Y_X3_hasContact (ZI G Y_X3_hasContact Q) 0 0 n μ 0 [(0, .inr v0), (1, .inl v1)] []
  refine a_iload_n (k := 1) dX3_hasContact_0 rfl rfl ?_
  refine a_if_lt (tgt := 16) dX3_hasContact_1 (by decide) (fun c1 => ?_) (fun c1 => ?_)
  · replace h := h.1 c1
    refine a_iconst dX3_hasContact_16 (by decide) ?_
    exact a_zret dX3_hasContact_17 rfl (Nat.le_of_ble_eq_true rfl) (Nat.le_of_ble_eq_true rfl) (by decide) h
  · replace h := h.2 c1
    refine a_iload_n (k := 1) dX3_hasContact_4 rfl rfl ?_
    refine a_aload_n (k := 0) dX3_hasContact_5 rfl rfl ?_
    refine g_X3_24 rfl dX3_hasContact_6 (St_ho hg o0) ?_
    refine a_icmp_ge (tgt := 16) dX3_hasContact_9 (by decide) (fun c2 => ?_) (fun c2 => ?_)
    · replace h := h.1 c2
      refine a_iconst dX3_hasContact_16 (by decide) ?_
      exact a_zret dX3_hasContact_17 rfl (Nat.le_of_ble_eq_true rfl) (Nat.le_of_ble_eq_true rfl) (by decide) h
    · replace h := h.2 c2
      refine a_iconst dX3_hasContact_12 (by decide) ?_
      refine a_goto (tgt := 17) dX3_hasContact_13 (by decide) ?_
      exact a_zret dX3_hasContact_17 rfl (Nat.le_of_ble_eq_true rfl) (Nat.le_of_ble_eq_true rfl) (by decide) h
theorem m_X3_hasRoom {G : GT} (hg : gx G = FX) {n : Nat} {μ : Mem} {Q : Int → Nat → Mem → Prop} {v0 : Int} (o0 : St v0 3 4) (h : ((8 ≤ (μ v0 2) → (Q 0 n μ)) ∧ (¬ (8 ≤ (μ v0 2)) → (Q 1 n μ)))) : CI G Y_X3_hasRoom [.inr v0] n μ Q := by
  refine e_I (by decide) (Nat.le_of_ble_eq_true rfl) ?_
  show Wa G Y_X3_hasRoom (ZI G Y_X3_hasRoom Q) 0 0 n μ 0 [(0, .inr v0)] []
  refine a_aload_n (k := 0) dX3_hasRoom_0 rfl rfl ?_
  refine g_X3_24 rfl dX3_hasRoom_1 (St_ho hg o0) ?_
  refine a_aload_n (k := 0) dX3_hasRoom_4 rfl rfl ?_
  refine gs_X3_20 rfl dX3_hasRoom_5 hg o0 ?_
  refine a_alen (N := 8) (t0 := 3) dX3_hasRoom_8 (by decide) (by decide) rfl (St_ho hg (st_3_2 o0)) ?_
  refine a_icmp_ge (tgt := 16) dX3_hasRoom_9 (by decide) (fun c1 => ?_) (fun c1 => ?_)
  · replace h := h.1 c1
    refine a_iconst dX3_hasRoom_16 (by decide) ?_
    exact a_zret dX3_hasRoom_17 rfl (Nat.le_of_ble_eq_true rfl) (Nat.le_of_ble_eq_true rfl) (by decide) h
  · replace h := h.2 c1
    refine a_iconst dX3_hasRoom_12 (by decide) ?_
    refine a_goto (tgt := 17) dX3_hasRoom_13 (by decide) ?_
    exact a_zret dX3_hasRoom_17 rfl (Nat.le_of_ble_eq_true rfl) (Nat.le_of_ble_eq_true rfl) (by decide) h
theorem m_X3_addContact {G : GT} (hg : gx G = FX) {n : Nat} {μ : Mem} {Q : Nat → Mem → Prop} {v0 v1 : Int} (o0 : St v0 3 4) (h : (((μ v0 2) < 0 → (Q n μ)) ∧ (¬ ((μ v0 2) < 0) → ((8 ≤ (μ v0 2) → (Q n μ)) ∧ (¬ (8 ≤ (μ v0 2)) → (((0 : Int) ≤ μ v0 2 ∧ μ v0 2 < 8) ∧ ((Co n v1) ∧ ((inR (((up μ (v0 + 2) (μ v0 2) v1) v0 2) + 1)) ∧ (Q n (up (up μ (v0 + 2) (μ v0 2) v1) v0 2 (((up μ (v0 + 2) (μ v0 2) v1) v0 2) + 1))))))))))) : CV G Y_X3_addContact [.inr v0, .inr v1] n μ Q := by
  refine e_V (by decide) (Nat.le_of_ble_eq_true rfl) ?_
  show Wa G Y_X3_addContact (ZV G Y_X3_addContact Q) 0 0 n μ 0 [(0, .inr v0), (1, .inr v1)] []
  refine a_aload_n (k := 0) dX3_addContact_0 rfl rfl ?_
  refine g_X3_24 rfl dX3_addContact_1 (St_ho hg o0) ?_
  refine a_if_lt (tgt := 39) dX3_addContact_4 (by decide) (fun c1 => ?_) (fun c1 => ?_)
  · replace h := h.1 c1
    exact a_ret dX3_addContact_39 rfl (Nat.le_of_ble_eq_true rfl) (Nat.le_of_ble_eq_true rfl) h
  · replace h := h.2 c1
    refine a_aload_n (k := 0) dX3_addContact_7 rfl rfl ?_
    refine g_X3_24 rfl dX3_addContact_8 (St_ho hg o0) ?_
    refine a_aload_n (k := 0) dX3_addContact_11 rfl rfl ?_
    refine gs_X3_20 rfl dX3_addContact_12 hg o0 ?_
    refine a_alen (N := 8) (t0 := 3) dX3_addContact_15 (by decide) (by decide) rfl (St_ho hg (st_3_2 o0)) ?_
    refine a_icmp_ge (tgt := 39) dX3_addContact_16 (by decide) (fun c2 => ?_) (fun c2 => ?_)
    · replace h := h.1 c2
      exact a_ret dX3_addContact_39 rfl (Nat.le_of_ble_eq_true rfl) (Nat.le_of_ble_eq_true rfl) h
    · replace h := h.2 c2
      refine a_aload_n (k := 0) dX3_addContact_19 rfl rfl ?_
      refine gs_X3_20 rfl dX3_addContact_20 hg o0 ?_
      refine a_aload_n (k := 0) dX3_addContact_23 rfl rfl ?_
      refine g_X3_24 rfl dX3_addContact_24 (St_ho hg o0) ?_
      refine a_aload_n (k := 1) dX3_addContact_27 rfl rfl ?_
      obtain ⟨q3, h⟩ := h
      obtain ⟨q4, h⟩ := h
      refine a_aastore (N := 8) (kd := 23) (t0 := 3) dX3_addContact_28 (by decide) rfl (St_ho hg (st_3_2 o0)) q3.1 q3.2 cf_1 (fun _ => q4) (FX_put hg (st_3_2 o0) rfl) ?_
      refine a_aload_n (k := 0) dX3_addContact_29 rfl rfl ?_
      refine a_dup dX3_addContact_30 ?_
      refine g_X3_24 rfl dX3_addContact_31 (St_ho hg o0) ?_
      refine a_iconst dX3_addContact_34 (by decide) ?_
      obtain ⟨q5, h⟩ := h
      refine a_iadd dX3_addContact_35 q5 ?_
      refine p_X3_24 rfl dX3_addContact_36 (St_ho hg o0) (FX_put hg o0 rfl) ?_
      exact a_ret dX3_addContact_39 rfl (Nat.le_of_ble_eq_true rfl) (Nat.le_of_ble_eq_true rfl) h
theorem m_X3_contactAt {G : GT} (hg : gx G = FX) {n : Nat} {μ : Mem} {Q : Int → Nat → Mem → Prop} {v0 v1 : Int} (o0 : St v0 3 4) (h : ((v1 < 0 → (((0 : Int) ≤ v0 + 1) ∧ (Q (v0 + 1) n μ))) ∧ (¬ (v1 < 0) → (((μ v0 2) ≤ v1 → (((0 : Int) ≤ v0 + 1) ∧ (Q (v0 + 1) n μ))) ∧ (¬ ((μ v0 2) ≤ v1) → ((v1 < 8 → (((0 : Int) ≤ v1 ∧ v1 < 8) ∧ ((¬ (μ (v0 + 2) v1 < 0) → (((0 : Int) ≤ μ (v0 + 2) v1) ∧ (Q (μ (v0 + 2) v1) n μ))) ∧ (μ (v0 + 2) v1 < 0 → (((0 : Int) ≤ v0 + 1) ∧ (Q (v0 + 1) n μ)))))) ∧ (¬ (v1 < 8) → (((0 : Int) ≤ v0 + 1) ∧ (Q (v0 + 1) n μ))))))))) : CR G Y_X3_contactAt [.inr v0, .inl v1] n μ Q := by
  refine e_R (by decide) (Nat.le_of_ble_eq_true rfl) ?_
  show Wa G Y_X3_contactAt (ZR G Y_X3_contactAt Q) 0 0 n μ 0 [(0, .inr v0), (1, .inl v1)] []
  refine a_iload_n (k := 1) dX3_contactAt_0 rfl rfl ?_
  refine a_if_lt (tgt := 21) dX3_contactAt_1 (by decide) (fun c1 => ?_) (fun c1 => ?_)
  · replace h := h.1 c1
    refine a_aload_n (k := 0) dX3_contactAt_21 rfl rfl ?_
    refine gs_X3_14 rfl dX3_contactAt_22 hg o0 ?_
    obtain ⟨q2, h⟩ := h
    exact a_aret dX3_contactAt_25 rfl (Nat.le_of_ble_eq_true rfl) (Nat.le_of_ble_eq_true rfl) q2 h
  · replace h := h.2 c1
    refine a_iload_n (k := 1) dX3_contactAt_4 rfl rfl ?_
    refine a_aload_n (k := 0) dX3_contactAt_5 rfl rfl ?_
    refine g_X3_24 rfl dX3_contactAt_6 (St_ho hg o0) ?_
    refine a_icmp_ge (tgt := 21) dX3_contactAt_9 (by decide) (fun c3 => ?_) (fun c3 => ?_)
    · replace h := h.1 c3
      refine a_aload_n (k := 0) dX3_contactAt_21 rfl rfl ?_
      refine gs_X3_14 rfl dX3_contactAt_22 hg o0 ?_
      obtain ⟨q4, h⟩ := h
      exact a_aret dX3_contactAt_25 rfl (Nat.le_of_ble_eq_true rfl) (Nat.le_of_ble_eq_true rfl) q4 h
    · replace h := h.2 c3
      refine a_iload_n (k := 1) dX3_contactAt_12 rfl rfl ?_
      refine a_aload_n (k := 0) dX3_contactAt_13 rfl rfl ?_
      refine gs_X3_20 rfl dX3_contactAt_14 hg o0 ?_
      refine a_alen (N := 8) (t0 := 3) dX3_contactAt_17 (by decide) (by decide) rfl (St_ho hg (st_3_2 o0)) ?_
      refine a_icmp_lt (tgt := 26) dX3_contactAt_18 (by decide) (fun c5 => ?_) (fun c5 => ?_)
      · replace h := h.1 c5
        refine a_aload_n (k := 0) dX3_contactAt_26 rfl rfl ?_
        refine gs_X3_20 rfl dX3_contactAt_27 hg o0 ?_
        refine a_iload_n (k := 1) dX3_contactAt_30 rfl rfl ?_
        obtain ⟨q6, h⟩ := h
        refine a_aaload (N := 8) (kd := 23) (t0 := 3) dX3_contactAt_31 (by decide) rfl (St_ho hg (st_3_2 o0)) q6.1 q6.2 ?_
        refine b_astore_n (L' := [(0, .inr v0), (1, .inl v1), (2, .inr (μ (v0 + 2) v1))]) [1, 2, 0] dX3_contactAt_32 rfl (by decide) rfl ?_
        refine a_aload_n (k := 2) dX3_contactAt_33 rfl rfl ?_
        refine a_ifnonnull (tgt := 44) dX3_contactAt_34 (by decide) (fun c7 => ?_) (fun c7 => ?_)
        · replace h := h.1 c7
          refine a_aload_n (k := 2) dX3_contactAt_44 rfl rfl ?_
          obtain ⟨q8, h⟩ := h
          exact a_aret dX3_contactAt_45 rfl (Nat.le_of_ble_eq_true rfl) (Nat.le_of_ble_eq_true rfl) q8 h
        · replace h := h.2 c7
          refine a_aload_n (k := 0) dX3_contactAt_37 rfl rfl ?_
          refine gs_X3_14 rfl dX3_contactAt_38 hg o0 ?_
          refine a_goto (tgt := 45) dX3_contactAt_41 (by decide) ?_
          obtain ⟨q9, h⟩ := h
          exact a_aret dX3_contactAt_45 rfl (Nat.le_of_ble_eq_true rfl) (Nat.le_of_ble_eq_true rfl) q9 h
      · replace h := h.2 c5
        refine a_aload_n (k := 0) dX3_contactAt_21 rfl rfl ?_
        refine gs_X3_14 rfl dX3_contactAt_22 hg o0 ?_
        obtain ⟨q10, h⟩ := h
        exact a_aret dX3_contactAt_25 rfl (Nat.le_of_ble_eq_true rfl) (Nat.le_of_ble_eq_true rfl) q10 h
abbrev B_X3_copyFrom_15 (G : GT) (Q : Nat → Mem → Prop) (n : Nat) (μ : Mem) (v0 : Int) (v1 : Int) (v2 : Int) : Prop := Wa G Y_X3_copyFrom (ZV G Y_X3_copyFrom Q) 0 0 n μ 15 [(0, .inr v0), (1, .inr v1), (2, .inl v2)] []
theorem m_X3_copyFrom {G : GT} (hg : gx G = FX) {n : Nat} {μ : Mem} {Q : Nat → Mem → Prop} {v0 v1 : Int} (o0 : St v0 3 4) (o1 : St v1 3 4) (h : (B_X3_copyFrom_15 G Q n (up (up μ v0 3 (μ v1 3)) v0 2 0) v0 v1 0)) : CV G Y_X3_copyFrom [.inr v0, .inr v1] n μ Q := by
  refine e_V (by decide) (Nat.le_of_ble_eq_true rfl) ?_
  show Wa G Y_X3_copyFrom (ZV G Y_X3_copyFrom Q) 0 0 n μ 0 [(0, .inr v0), (1, .inr v1)] []
  refine a_aload_n (k := 0) dX3_copyFrom_0 rfl rfl ?_
  refine a_aload_n (k := 1) dX3_copyFrom_1 rfl rfl ?_
  refine g_X3_28 rfl dX3_copyFrom_2 (St_ho hg o1) ?_
  refine p_X3_28 rfl dX3_copyFrom_5 (St_ho hg o0) (FX_put hg o0 rfl) ?_
  refine a_aload_n (k := 0) dX3_copyFrom_8 rfl rfl ?_
  refine a_iconst dX3_copyFrom_9 (by decide) ?_
  refine p_X3_24 rfl dX3_copyFrom_10 (St_ho hg o0) (FX_put hg o0 rfl) ?_
  refine a_iconst dX3_copyFrom_13 (by decide) ?_
  refine b_istore_n (L' := [(0, .inr v0), (1, .inr v1), (2, .inl 0)]) [1, 2, 0] dX3_copyFrom_14 rfl (by decide) rfl ?_
  exact h
theorem b_X3_copyFrom_15 {G : GT} (hg : gx G = FX) {n : Nat} {μ : Mem} {Q : Nat → Mem → Prop} {v0 v1 v2 : Int} (o0 : St v0 3 4) (o1 : St v1 3 4) (h : (((μ v1 2) ≤ v2 → (Q n μ)) ∧ (¬ ((μ v1 2) ≤ v2) → (CR G Y_X3_contactAt [.inr v1, .inl v2] n μ (fun (x2 : Int) (n3 : Nat) (μ4 : Mem) => (CV G Y_X3_addContact [.inr v0, .inr x2] n3 μ4 (fun (n6 : Nat) (μ7 : Mem) => ((inR (v2 + 1)) ∧ (B_X3_copyFrom_15 G Q n6 μ7 v0 v1 (v2 + 1)))))))))) : B_X3_copyFrom_15 G Q n μ v0 v1 v2 := by
  show Wa G Y_X3_copyFrom (ZV G Y_X3_copyFrom Q) 0 0 n μ 15 [(0, .inr v0), (1, .inr v1), (2, .inl v2)] []
  refine a_iload_n (k := 2) dX3_copyFrom_15 rfl rfl ?_
  refine a_aload_n (k := 1) dX3_copyFrom_16 rfl rfl ?_
  refine g_X3_24 rfl dX3_copyFrom_17 (St_ho hg o1) ?_
  refine a_icmp_ge (tgt := 38) dX3_copyFrom_20 (by decide) (fun c1 => ?_) (fun c1 => ?_)
  · replace h := h.1 c1
    exact a_ret dX3_copyFrom_38 rfl (Nat.le_of_ble_eq_true rfl) (Nat.le_of_ble_eq_true rfl) h
  · replace h := h.2 c1
    refine a_aload_n (k := 0) dX3_copyFrom_23 rfl rfl ?_
    refine a_aload_n (k := 1) dX3_copyFrom_24 rfl rfl ?_
    refine a_iload_n (k := 2) dX3_copyFrom_25 rfl rfl ?_
    refine k_X3_31 rfl dX3_copyFrom_26 (Nat.le_of_ble_eq_true rfl) rfl (Nat.le_of_ble_eq_true rfl) (Nat.le_of_ble_eq_true rfl) (St_ho hg o1) h (fun x2 n3 μ4 _ h => ?_)
    refine k_X3_35 rfl dX3_copyFrom_29 (Nat.le_of_ble_eq_true rfl) rfl (Nat.le_of_ble_eq_true rfl) (Nat.le_of_ble_eq_true rfl) (St_ho hg o0) h (fun n6 μ7 h => ?_)
    obtain ⟨q8, h⟩ := h
    refine b_iinc (L' := [(0, .inr v0), (1, .inr v1), (2, .inl (v2 + 1))]) (k := 2) [1, 2, 0] dX3_copyFrom_32 rfl q8 (by decide) rfl ?_
    refine a_goto (tgt := 15) dX3_copyFrom_35 (by decide) ?_
    exact h
abbrev B_X4_readPlan_23 (G : GT) (Q : Int → Nat → Mem → Prop) (c0 s0 : Nat) (n : Nat) (μ : Mem) (v1 : Int) : Prop := Wa G Y_X4_readPlan (ZI G Y_X4_readPlan Q) c0 s0 n μ 23 [(0, .inr 3), (1, .inl v1)] []
abbrev B_X4_readPlan_62 (G : GT) (Q : Int → Nat → Mem → Prop) (c0 s0 : Nat) (n : Nat) (μ : Mem) (v1 : Int) (u0 : Int) (u1 : Int) : Prop := Wa G Y_X4_readPlan (ZI G Y_X4_readPlan Q) c0 s0 n μ 62 [(0, .inr 3), (1, .inl v1)] [.inl u0, .inr u1]
abbrev B_X4_readPlan_75 (G : GT) (Q : Int → Nat → Mem → Prop) (c0 s0 : Nat) (n : Nat) (μ : Mem) (v1 : Int) : Prop := Wa G Y_X4_readPlan (ZI G Y_X4_readPlan Q) c0 s0 n μ 75 [(0, .inr 3), (1, .inl v1)] []
theorem m_X4_readPlan {G : GT} (hg : gx G = FX) {n : Nat} {μ : Mem} {Q : Int → Nat → Mem → Prop}  (h : ((0 ≤ 150 ∧ 0 ≤ 900) ∧ (CV G Y_X3_reset [.inr 4] n μ (fun (n2 : Nat) (μ3 : Mem) => ((0 ≤ 150 ∧ 0 ≤ 900) ∧ (CV G Y_X4_skipBlanks [.inr 3] n2 (up (up μ3 3 2 0) 3 3 (-1)) (fun (n5 : Nat) (μ6 : Mem) => (B_X4_readPlan_23 G Q 0 0 n5 μ6 0)))))))) : CI G Y_X4_readPlan [.inr 3] n μ Q := by
  refine e_I (by decide) (Nat.le_of_ble_eq_true rfl) ?_
  show Wa G Y_X4_readPlan (ZI G Y_X4_readPlan Q) 0 0 n μ 0 [(0, .inr 3)] []
  refine a_aload_n (k := 0) dX4_readPlan_0 rfl rfl ?_
  refine gs_X4_18 rfl dX4_readPlan_1 hg St_3 ?_
  obtain ⟨q8, h⟩ := h
  refine k_X4_29 rfl dX4_readPlan_4 (Nat.le_of_ble_eq_true rfl) rfl q8.1 q8.2 (St_ho hg St_4) h (fun n2 μ3 h => ?_)
  refine a_aload_n (k := 0) dX4_readPlan_7 rfl rfl ?_
  refine a_iconst dX4_readPlan_8 (by decide) ?_
  refine p_X4_22 rfl dX4_readPlan_9 (St_ho hg St_3) (FX_put hg St_3 rfl) ?_
  refine a_aload_n (k := 0) dX4_readPlan_12 rfl rfl ?_
  refine a_iconst dX4_readPlan_13 (by decide) ?_
  refine p_X4_26 rfl dX4_readPlan_14 (St_ho hg St_3) (FX_put hg St_3 rfl) ?_
  refine a_iconst dX4_readPlan_17 (by decide) ?_
  refine b_istore_n (L' := [(0, .inr 3), (1, .inl 0)]) [1, 0] dX4_readPlan_18 rfl (by decide) rfl ?_
  refine a_aload_n (k := 0) dX4_readPlan_19 rfl rfl ?_
  obtain ⟨q7, h⟩ := h
  refine k_X4_32 rfl dX4_readPlan_20 (Nat.le_of_ble_eq_true rfl) rfl q7.1 q7.2 (St_ho hg St_3) h (fun n5 μ6 h => ?_)
  exact h
theorem b_X4_readPlan_23 {G : GT} (hg : gx G = FX) {c0 s0 : Nat} {n : Nat} {μ : Mem} {Q : Int → Nat → Mem → Prop} {v1 : Int}  (h : ((150 ≤ v1 → (B_X4_readPlan_75 G Q c0 s0 n μ v1)) ∧ (¬ (150 ≤ v1) → (((μ 1 1) ≤ (μ 3 2) → (B_X4_readPlan_75 G Q c0 s0 n μ v1)) ∧ (¬ ((μ 1 1) ≤ (μ 3 2)) → ((¬ ((μ 3 3) = (-1)) → (B_X4_readPlan_75 G Q c0 s0 n μ v1)) ∧ ((μ 3 3) = (-1) → ((¬ (v1 = 0) → (B_X4_readPlan_62 G Q c0 s0 n μ v1 0 3)) ∧ (v1 = 0 → (B_X4_readPlan_62 G Q c0 s0 n μ v1 1 3)))))))))) : B_X4_readPlan_23 G Q c0 s0 n μ v1 := by
  show Wa G Y_X4_readPlan (ZI G Y_X4_readPlan Q) c0 s0 n μ 23 [(0, .inr 3), (1, .inl v1)] []
  refine a_iload_n (k := 1) dX4_readPlan_23 rfl rfl ?_
  refine a_sipush dX4_readPlan_24 (by decide) (by decide) ?_
  refine a_icmp_ge (tgt := 75) dX4_readPlan_27 (by decide) (fun c1 => ?_) (fun c1 => ?_)
  · replace h := h.1 c1
    exact h
  · replace h := h.2 c1
    refine a_aload_n (k := 0) dX4_readPlan_30 rfl rfl ?_
    refine g_X4_22 rfl dX4_readPlan_31 (St_ho hg St_3) ?_
    refine a_aload_n (k := 0) dX4_readPlan_34 rfl rfl ?_
    refine gs_X4_9 rfl dX4_readPlan_35 hg St_3 ?_
    refine g_X4_35 rfl dX4_readPlan_38 (St_ho hg St_1) ?_
    refine a_icmp_ge (tgt := 75) dX4_readPlan_41 (by decide) (fun c2 => ?_) (fun c2 => ?_)
    · replace h := h.1 c2
      exact h
    · replace h := h.2 c2
      refine a_aload_n (k := 0) dX4_readPlan_44 rfl rfl ?_
      refine g_X4_26 rfl dX4_readPlan_45 (St_ho hg St_3) ?_
      refine a_iconst dX4_readPlan_48 (by decide) ?_
      refine a_icmp_ne (tgt := 75) dX4_readPlan_49 (by decide) (fun c3 => ?_) (fun c3 => ?_)
      · replace h := h.1 c3
        exact h
      · replace h := h.2 c3
        refine a_aload_n (k := 0) dX4_readPlan_52 rfl rfl ?_
        refine a_iload_n (k := 1) dX4_readPlan_53 rfl rfl ?_
        refine a_if_ne (tgt := 61) dX4_readPlan_54 (by decide) (fun c4 => ?_) (fun c4 => ?_)
        · replace h := h.1 c4
          refine a_iconst dX4_readPlan_61 (by decide) ?_
          exact h
        · replace h := h.2 c4
          refine a_iconst dX4_readPlan_57 (by decide) ?_
          refine a_goto (tgt := 62) dX4_readPlan_58 (by decide) ?_
          exact h
theorem b_X4_readPlan_62 {G : GT} (hg : gx G = FX) {c0 s0 : Nat} {n : Nat} {μ : Mem} {Q : Int → Nat → Mem → Prop} {v1 u0 u1 : Int} (ou1 : St u1 4 4) (h : ((c0 + 1 ≤ 150 ∧ s0 + 6 ≤ 900) ∧ (CV G Y_X4_readItem [.inr u1, .inl u0] n μ (fun (n2 : Nat) (μ3 : Mem) => ((inR (v1 + 1)) ∧ ((c0 + 1 ≤ 150 ∧ s0 + 6 ≤ 900) ∧ (CV G Y_X4_skipBlanks [.inr 3] n2 μ3 (fun (n6 : Nat) (μ7 : Mem) => (B_X4_readPlan_23 G Q (c0 + 1) (s0 + 6) n6 μ7 (v1 + 1)))))))))) : B_X4_readPlan_62 G Q c0 s0 n μ v1 u0 u1 := by
  show Wa G Y_X4_readPlan (ZI G Y_X4_readPlan Q) c0 s0 n μ 62 [(0, .inr 3), (1, .inl v1)] [.inl u0, .inr u1]
  obtain ⟨q9, h⟩ := h
  refine k_X4_40 rfl dX4_readPlan_62 (Nat.le_of_ble_eq_true rfl) rfl q9.1 q9.2 (St_ho hg ou1) h (fun n2 μ3 h => ?_)
  obtain ⟨q4, h⟩ := h
  refine b_iinc (L' := [(0, .inr 3), (1, .inl (v1 + 1))]) (k := 1) [1, 0] dX4_readPlan_65 rfl q4 (by decide) rfl ?_
  refine a_aload_n (k := 0) dX4_readPlan_68 rfl rfl ?_
  obtain ⟨q8, h⟩ := h
  refine k_X4_32 rfl dX4_readPlan_69 (Nat.le_of_ble_eq_true rfl) rfl q8.1 q8.2 (St_ho hg St_3) h (fun n6 μ7 h => ?_)
  refine a_goto (tgt := 23) dX4_readPlan_72 (by decide) ?_
  exact h
theorem b_X4_readPlan_75 {G : GT} (hg : gx G = FX) {c0 s0 : Nat} {n : Nat} {μ : Mem} {Q : Int → Nat → Mem → Prop} {v1 : Int}  (h : ((¬ ((μ 3 3) = (-1)) → ((inR ((-10) - (μ 3 3))) ∧ ((c0 ≤ 150 ∧ s0 ≤ 900) ∧ (Q ((-10) - (μ 3 3)) n μ)))) ∧ ((μ 3 3) = (-1) → ((c0 ≤ 150 ∧ s0 ≤ 900) ∧ (Q v1 n μ))))) : B_X4_readPlan_75 G Q c0 s0 n μ v1 := by
  show Wa G Y_X4_readPlan (ZI G Y_X4_readPlan Q) c0 s0 n μ 75 [(0, .inr 3), (1, .inl v1)] []
  refine a_aload_n (k := 0) dX4_readPlan_75 rfl rfl ?_
  refine g_X4_26 rfl dX4_readPlan_76 (St_ho hg St_3) ?_
  refine a_iconst dX4_readPlan_79 (by decide) ?_
  refine a_icmp_ne (tgt := 87) dX4_readPlan_80 (by decide) (fun c1 => ?_) (fun c1 => ?_)
  · replace h := h.1 c1
    refine a_bipush dX4_readPlan_87 (by decide) (by decide) ?_
    refine a_aload_n (k := 0) dX4_readPlan_89 rfl rfl ?_
    refine g_X4_26 rfl dX4_readPlan_90 (St_ho hg St_3) ?_
    obtain ⟨q2, h⟩ := h
    refine a_isub dX4_readPlan_93 q2 ?_
    obtain ⟨q3, h⟩ := h
    exact a_iret dX4_readPlan_94 rfl q3.1 q3.2 h
  · replace h := h.2 c1
    refine a_iload_n (k := 1) dX4_readPlan_83 rfl rfl ?_
    refine a_goto (tgt := 94) dX4_readPlan_84 (by decide) ?_
    obtain ⟨q4, h⟩ := h
    exact a_iret dX4_readPlan_94 rfl q4.1 q4.2 h
abbrev B_X4_readItem_39 (G : GT) (Q : Nat → Mem → Prop) (c0 s0 : Nat) (n : Nat) (μ : Mem) (v2 : Int) : Prop := Wa G Y_X4_readItem (ZV G Y_X4_readItem Q) c0 s0 n μ 39 [(0, .inr 3), (2, .inl v2)] []
abbrev B_X4_readItem_72 (G : GT) (Q : Nat → Mem → Prop) (c0 s0 : Nat) (n : Nat) (μ : Mem) : Prop := Wa G Y_X4_readItem (ZV G Y_X4_readItem Q) c0 s0 n μ 72 [(0, .inr 3)] []
theorem m_X4_readItem {G : GT} (hg : gx G = FX) {n : Nat} {μ : Mem} {Q : Nat → Mem → Prop} {v1 : Int}  (h : ((0 ≤ 1 ∧ 0 ≤ 6) ∧ (CI G Y_X9_byteAt [.inr 1, .inl (μ 3 2)] n μ (fun (x1 : Int) (n2 : Nat) (μ3 : Mem) => ((¬ (x1 = 110) → (B_X4_readItem_39 G Q 0 0 n2 μ3 x1)) ∧ (x1 = 110 → ((v1 = 0 → (B_X4_readItem_39 G Q 0 0 n2 μ3 x1)) ∧ (¬ (v1 = 0) → ((inR ((μ3 3 2) + 1)) ∧ ((0 ≤ 1 ∧ 0 ≤ 6) ∧ (CV G Y_X4_readNodes [.inr 3] n2 (up μ3 3 2 ((μ3 3 2) + 1)) (fun (n8 : Nat) (μ9 : Mem) => ((0 ≤ 1 ∧ 0 ≤ 6) ∧ (Q n8 μ9)))))))))))))) : CV G Y_X4_readItem [.inr 3, .inl v1] n μ Q := by
  refine e_V (by decide) (Nat.le_of_ble_eq_true rfl) ?_
  show Wa G Y_X4_readItem (ZV G Y_X4_readItem Q) 0 0 n μ 0 [(0, .inr 3), (1, .inl v1)] []
  refine a_aload_n (k := 0) dX4_readItem_0 rfl rfl ?_
  refine gs_X4_9 rfl dX4_readItem_1 hg St_3 ?_
  refine a_aload_n (k := 0) dX4_readItem_4 rfl rfl ?_
  refine g_X4_22 rfl dX4_readItem_5 (St_ho hg St_3) ?_
  obtain ⟨q12, h⟩ := h
  refine k_X4_44 rfl dX4_readItem_8 (Nat.le_of_ble_eq_true rfl) rfl q12.1 q12.2 (St_ho hg St_1) h (fun x1 n2 μ3 h => ?_)
  refine b_istore_n (L' := [(0, .inr 3), (1, .inl v1), (2, .inl x1)]) [1, 2, 0] dX4_readItem_11 rfl (by decide) rfl ?_
  refine a_iload_n (k := 2) dX4_readItem_12 rfl rfl ?_
  refine a_bipush dX4_readItem_13 (by decide) (by decide) ?_
  refine a_icmp_ne (tgt := 39) dX4_readItem_15 (by decide) (fun c4 => ?_) (fun c4 => ?_)
  · replace h := h.1 c4
    refine a_sub [0, 2] rfl ?_
    exact h
  · replace h := h.2 c4
    refine a_iload_n (k := 1) dX4_readItem_18 rfl rfl ?_
    refine a_if_eq (tgt := 39) dX4_readItem_19 (by decide) (fun c5 => ?_) (fun c5 => ?_)
    · replace h := h.1 c5
      refine a_sub [0, 2] rfl ?_
      exact h
    · replace h := h.2 c5
      refine a_aload_n (k := 0) dX4_readItem_22 rfl rfl ?_
      refine a_dup dX4_readItem_23 ?_
      refine g_X4_22 rfl dX4_readItem_24 (St_ho hg St_3) ?_
      refine a_iconst dX4_readItem_27 (by decide) ?_
      obtain ⟨q6, h⟩ := h
      refine a_iadd dX4_readItem_28 q6 ?_
      refine p_X4_22 rfl dX4_readItem_29 (St_ho hg St_3) (FX_put hg St_3 rfl) ?_
      refine a_aload_n (k := 0) dX4_readItem_32 rfl rfl ?_
      obtain ⟨q11, h⟩ := h
      refine k_X4_48 rfl dX4_readItem_33 (Nat.le_of_ble_eq_true rfl) rfl q11.1 q11.2 (St_ho hg St_3) h (fun n8 μ9 h => ?_)
      refine a_goto (tgt := 80) dX4_readItem_36 (by decide) ?_
      obtain ⟨q10, h⟩ := h
      exact a_ret dX4_readItem_80 rfl q10.1 q10.2 h
theorem b_X4_readItem_39 {G : GT} (hg : gx G = FX) {c0 s0 : Nat} {n : Nat} {μ : Mem} {Q : Nat → Mem → Prop} {v2 : Int}  (h : ((¬ (v2 = 99) → (B_X4_readItem_72 G Q c0 s0 n μ)) ∧ (v2 = 99 → ((c0 ≤ 1 ∧ s0 ≤ 6) ∧ (CI G Y_X3_hasRoom [.inr 4] n μ (fun (x2 : Int) (n3 : Nat) (μ4 : Mem) => ((x2 = 0 → (B_X4_readItem_72 G Q c0 s0 n3 μ4)) ∧ (¬ (x2 = 0) → ((inR ((μ4 3 2) + 1)) ∧ ((c0 + 1 ≤ 1 ∧ s0 + 6 ≤ 6) ∧ (CV G Y_X4_readContact [.inr 3] n3 (up μ4 3 2 ((μ4 3 2) + 1)) (fun (n8 : Nat) (μ9 : Mem) => ((c0 + 1 ≤ 1 ∧ s0 + 6 ≤ 6) ∧ (Q n8 μ9)))))))))))))) : B_X4_readItem_39 G Q c0 s0 n μ v2 := by
  show Wa G Y_X4_readItem (ZV G Y_X4_readItem Q) c0 s0 n μ 39 [(0, .inr 3), (2, .inl v2)] []
  refine a_iload_n (k := 1) dX4_readItem_39 rfl rfl ?_
  refine a_bipush dX4_readItem_40 (by decide) (by decide) ?_
  refine a_icmp_ne (tgt := 72) dX4_readItem_42 (by decide) (fun c1 => ?_) (fun c1 => ?_)
  · replace h := h.1 c1
    refine a_sub [0] rfl ?_
    exact h
  · replace h := h.2 c1
    refine a_aload_n (k := 0) dX4_readItem_45 rfl rfl ?_
    refine gs_X4_18 rfl dX4_readItem_46 hg St_3 ?_
    obtain ⟨q12, h⟩ := h
    refine k_X4_51 rfl dX4_readItem_49 (Nat.le_of_ble_eq_true rfl) rfl q12.1 q12.2 (St_ho hg St_4) h (fun x2 n3 μ4 h => ?_)
    refine a_if_eq (tgt := 72) dX4_readItem_52 (by decide) (fun c5 => ?_) (fun c5 => ?_)
    · replace h := h.1 c5
      refine a_sub [0] rfl ?_
      exact h
    · replace h := h.2 c5
      refine a_aload_n (k := 0) dX4_readItem_55 rfl rfl ?_
      refine a_dup dX4_readItem_56 ?_
      refine g_X4_22 rfl dX4_readItem_57 (St_ho hg St_3) ?_
      refine a_iconst dX4_readItem_60 (by decide) ?_
      obtain ⟨q6, h⟩ := h
      refine a_iadd dX4_readItem_61 q6 ?_
      refine p_X4_22 rfl dX4_readItem_62 (St_ho hg St_3) (FX_put hg St_3 rfl) ?_
      refine a_aload_n (k := 0) dX4_readItem_65 rfl rfl ?_
      obtain ⟨q11, h⟩ := h
      refine k_X4_55 rfl dX4_readItem_66 (Nat.le_of_ble_eq_true rfl) rfl q11.1 q11.2 (St_ho hg St_3) h (fun n8 μ9 h => ?_)
      refine a_goto (tgt := 80) dX4_readItem_69 (by decide) ?_
      obtain ⟨q10, h⟩ := h
      exact a_ret dX4_readItem_80 rfl q10.1 q10.2 h
theorem b_X4_readItem_72 {G : GT} (hg : gx G = FX) {c0 s0 : Nat} {n : Nat} {μ : Mem} {Q : Nat → Mem → Prop}  (h : ((c0 ≤ 1 ∧ s0 ≤ 6) ∧ (CV G Y_X4_blame [.inr 3, .inl (μ 3 2)] n μ (fun (n2 : Nat) (μ3 : Mem) => ((c0 ≤ 1 ∧ s0 ≤ 6) ∧ (Q n2 μ3)))))) : B_X4_readItem_72 G Q c0 s0 n μ := by
  show Wa G Y_X4_readItem (ZV G Y_X4_readItem Q) c0 s0 n μ 72 [(0, .inr 3)] []
  refine a_aload_n (k := 0) dX4_readItem_72 rfl rfl ?_
  refine a_aload_n (k := 0) dX4_readItem_73 rfl rfl ?_
  refine g_X4_22 rfl dX4_readItem_74 (St_ho hg St_3) ?_
  obtain ⟨q5, h⟩ := h
  refine k_X4_58 rfl dX4_readItem_77 (Nat.le_of_ble_eq_true rfl) rfl q5.1 q5.2 (St_ho hg St_3) h (fun n2 μ3 h => ?_)
  obtain ⟨q4, h⟩ := h
  exact a_ret dX4_readItem_80 rfl q4.1 q4.2 h
theorem m_X4_readNodes {G : GT} (hg : gx G = FX) {n : Nat} {μ : Mem} {Q : Nat → Mem → Prop}  (h : (CI G Y_X4_readNumber [.inr 3, .inl 2, .inl 6, .inl (-1)] n μ (fun (x1 : Int) (n2 : Nat) (μ3 : Mem) => (CV G Y_X4_readSemicolon [.inr 3] n2 μ3 (fun (n5 : Nat) (μ6 : Mem) => ((¬ ((μ6 3 3) = (-1)) → (Q n5 μ6)) ∧ ((μ6 3 3) = (-1) → (Q n5 (up μ6 4 3 x1))))))))) : CV G Y_X4_readNodes [.inr 3] n μ Q := by
  refine e_V (by decide) (Nat.le_of_ble_eq_true rfl) ?_
  show Wa G Y_X4_readNodes (ZV G Y_X4_readNodes Q) 0 0 n μ 0 [(0, .inr 3)] []
  refine a_aload_n (k := 0) dX4_readNodes_0 rfl rfl ?_
  refine a_iconst dX4_readNodes_1 (by decide) ?_
  refine a_bipush dX4_readNodes_2 (by decide) (by decide) ?_
  refine a_iconst dX4_readNodes_4 (by decide) ?_
  refine k_X4_62 rfl dX4_readNodes_5 (Nat.le_of_ble_eq_true rfl) rfl (Nat.le_of_ble_eq_true rfl) (Nat.le_of_ble_eq_true rfl) (St_ho hg St_3) h (fun x1 n2 μ3 h => ?_)
  refine b_istore_n (L' := [(0, .inr 3), (1, .inl x1)]) [1, 0] dX4_readNodes_8 rfl (by decide) rfl ?_
  refine a_aload_n (k := 0) dX4_readNodes_9 rfl rfl ?_
  refine k_X4_66 rfl dX4_readNodes_10 (Nat.le_of_ble_eq_true rfl) rfl (Nat.le_of_ble_eq_true rfl) (Nat.le_of_ble_eq_true rfl) (St_ho hg St_3) h (fun n5 μ6 h => ?_)
  refine a_aload_n (k := 0) dX4_readNodes_13 rfl rfl ?_
  refine g_X4_26 rfl dX4_readNodes_14 (St_ho hg St_3) ?_
  refine a_iconst dX4_readNodes_17 (by decide) ?_
  refine a_icmp_ne (tgt := 29) dX4_readNodes_18 (by decide) (fun c7 => ?_) (fun c7 => ?_)
  · replace h := h.1 c7
    exact a_ret dX4_readNodes_29 rfl (Nat.le_of_ble_eq_true rfl) (Nat.le_of_ble_eq_true rfl) h
  · replace h := h.2 c7
    refine a_aload_n (k := 0) dX4_readNodes_21 rfl rfl ?_
    refine gs_X4_18 rfl dX4_readNodes_22 hg St_3 ?_
    refine a_iload_n (k := 1) dX4_readNodes_25 rfl rfl ?_
    refine p_X4_69 rfl dX4_readNodes_26 (St_ho hg St_4) (FX_put hg St_4 rfl) ?_
    exact a_ret dX4_readNodes_29 rfl (Nat.le_of_ble_eq_true rfl) (Nat.le_of_ble_eq_true rfl) h
theorem m_X4_readContact {G : GT} (hg : gx G = FX) {n : Nat} {μ : Mem} {Q : Nat → Mem → Prop}  (h : ((inR ((μ 4 3) - 1)) ∧ ((0 ≤ 1 ∧ 0 ≤ 6) ∧ (CI G Y_X4_readNumber [.inr 3, .inl 0, .inl ((μ 4 3) - 1), .inl (-1)] n μ (fun (x2 : Int) (n3 : Nat) (μ4 : Mem) => ((inR ((μ4 4 3) - 1)) ∧ ((0 ≤ 1 ∧ 0 ≤ 6) ∧ (CI G Y_X4_readNumber [.inr 3, .inl 0, .inl ((μ4 4 3) - 1), .inl x2] n3 μ4 (fun (x6 : Int) (n7 : Nat) (μ8 : Mem) => ((0 ≤ 1 ∧ 0 ≤ 6) ∧ (CI G Y_X4_readNumber [.inr 3, .inl 0, .inl 98, .inl (-1)] n7 μ8 (fun (x9 : Int) (n10 : Nat) (μ11 : Mem) => ((inR (x9 + 1)) ∧ ((0 ≤ 1 ∧ 0 ≤ 6) ∧ (CI G Y_X4_readNumber [.inr 3, .inl (x9 + 1), .inl 99, .inl (-1)] n10 μ11 (fun (x13 : Int) (n14 : Nat) (μ15 : Mem) => ((0 ≤ 1 ∧ 0 ≤ 6) ∧ (CI G Y_X4_readNumber [.inr 3, .inl 1, .inl 9, .inl (-1)] n14 μ15 (fun (x16 : Int) (n17 : Nat) (μ18 : Mem) => ((0 ≤ 1 ∧ 0 ≤ 6) ∧ (CI G Y_X4_readNumber [.inr 3, .inl 0, .inl 9, .inl (-1)] n17 μ18 (fun (x19 : Int) (n20 : Nat) (μ21 : Mem) => ((0 ≤ 1 ∧ 0 ≤ 6) ∧ (CV G Y_X4_readSemicolon [.inr 3] n20 μ21 (fun (n23 : Nat) (μ24 : Mem) => ((¬ ((μ24 3 3) = (-1)) → ((0 ≤ 1 ∧ 0 ≤ 6) ∧ (Q n23 μ24))) ∧ ((μ24 3 3) = (-1) → ((0 + 1 ≤ 1 ∧ 0 + 6 ≤ 6) ∧ ((0 + 1 ≤ 1 ∧ 0 + 6 ≤ 6) ∧ (CV G Y_X1_init [.inr (n23 : Int), .inl x2, .inl x6, .inl x9, .inl x13, .inl x16, .inl x19] (n23 + 1) (nw μ24 n23 (objD 1)) (fun (n30 : Nat) (μ31 : Mem) => ((0 + 1 ≤ 1 ∧ 0 + 6 ≤ 6) ∧ (CV G Y_X3_addContact [.inr 4, .inr (n23 : Int)] n30 μ31 (fun (n33 : Nat) (μ34 : Mem) => ((0 + 1 ≤ 1 ∧ 0 + 6 ≤ 6) ∧ (Q n33 μ34)))))))))))))))))))))))))))))))))))) : CV G Y_X4_readContact [.inr 3] n μ Q := by
  refine e_V (by decide) (Nat.le_of_ble_eq_true rfl) ?_
  show Wa G Y_X4_readContact (ZV G Y_X4_readContact Q) 0 0 n μ 0 [(0, .inr 3)] []
  refine a_aload_n (k := 0) dX4_readContact_0 rfl rfl ?_
  refine a_iconst dX4_readContact_1 (by decide) ?_
  refine a_aload_n (k := 0) dX4_readContact_2 rfl rfl ?_
  refine gs_X4_18 rfl dX4_readContact_3 hg St_3 ?_
  refine g_X4_69 rfl dX4_readContact_6 (St_ho hg St_4) ?_
  refine a_iconst dX4_readContact_9 (by decide) ?_
  obtain ⟨q1, h⟩ := h
  refine a_isub dX4_readContact_10 q1 ?_
  refine a_iconst dX4_readContact_11 (by decide) ?_
  obtain ⟨q44, h⟩ := h
  refine k_X4_62 rfl dX4_readContact_12 (Nat.le_of_ble_eq_true rfl) rfl q44.1 q44.2 (St_ho hg St_3) h (fun x2 n3 μ4 h => ?_)
  refine b_istore_n (L' := [(0, .inr 3), (1, .inl x2)]) [1, 0] dX4_readContact_15 rfl (by decide) rfl ?_
  refine a_aload_n (k := 0) dX4_readContact_16 rfl rfl ?_
  refine a_iconst dX4_readContact_17 (by decide) ?_
  refine a_aload_n (k := 0) dX4_readContact_18 rfl rfl ?_
  refine gs_X4_18 rfl dX4_readContact_19 hg St_3 ?_
  refine g_X4_69 rfl dX4_readContact_22 (St_ho hg St_4) ?_
  refine a_iconst dX4_readContact_25 (by decide) ?_
  obtain ⟨q5, h⟩ := h
  refine a_isub dX4_readContact_26 q5 ?_
  refine a_iload_n (k := 1) dX4_readContact_27 rfl rfl ?_
  obtain ⟨q43, h⟩ := h
  refine k_X4_62 rfl dX4_readContact_28 (Nat.le_of_ble_eq_true rfl) rfl q43.1 q43.2 (St_ho hg St_3) h (fun x6 n7 μ8 h => ?_)
  refine b_istore_n (L' := [(0, .inr 3), (1, .inl x2), (2, .inl x6)]) [1, 2, 0] dX4_readContact_31 rfl (by decide) rfl ?_
  refine a_aload_n (k := 0) dX4_readContact_32 rfl rfl ?_
  refine a_iconst dX4_readContact_33 (by decide) ?_
  refine a_bipush dX4_readContact_34 (by decide) (by decide) ?_
  refine a_iconst dX4_readContact_36 (by decide) ?_
  obtain ⟨q42, h⟩ := h
  refine k_X4_62 rfl dX4_readContact_37 (Nat.le_of_ble_eq_true rfl) rfl q42.1 q42.2 (St_ho hg St_3) h (fun x9 n10 μ11 h => ?_)
  refine b_istore_n (L' := [(0, .inr 3), (1, .inl x2), (2, .inl x6), (3, .inl x9)]) [1, 2, 3, 0] dX4_readContact_40 rfl (by decide) rfl ?_
  refine a_aload_n (k := 0) dX4_readContact_41 rfl rfl ?_
  refine a_iload_n (k := 3) dX4_readContact_42 rfl rfl ?_
  refine a_iconst dX4_readContact_43 (by decide) ?_
  obtain ⟨q12, h⟩ := h
  refine a_iadd dX4_readContact_44 q12 ?_
  refine a_bipush dX4_readContact_45 (by decide) (by decide) ?_
  refine a_iconst dX4_readContact_47 (by decide) ?_
  obtain ⟨q41, h⟩ := h
  refine k_X4_62 rfl dX4_readContact_48 (Nat.le_of_ble_eq_true rfl) rfl q41.1 q41.2 (St_ho hg St_3) h (fun x13 n14 μ15 h => ?_)
  refine b_istore (L' := [(0, .inr 3), (1, .inl x2), (2, .inl x6), (3, .inl x9), (4, .inl x13)]) [1, 2, 3, 4, 0] dX4_readContact_51 (by decide) rfl ?_
  refine a_aload_n (k := 0) dX4_readContact_53 rfl rfl ?_
  refine a_iconst dX4_readContact_54 (by decide) ?_
  refine a_bipush dX4_readContact_55 (by decide) (by decide) ?_
  refine a_iconst dX4_readContact_57 (by decide) ?_
  obtain ⟨q40, h⟩ := h
  refine k_X4_62 rfl dX4_readContact_58 (Nat.le_of_ble_eq_true rfl) rfl q40.1 q40.2 (St_ho hg St_3) h (fun x16 n17 μ18 h => ?_)
  refine b_istore (L' := [(0, .inr 3), (1, .inl x2), (2, .inl x6), (3, .inl x9), (4, .inl x13), (5, .inl x16)]) [1, 2, 3, 4, 5, 0] dX4_readContact_61 (by decide) rfl ?_
  refine a_aload_n (k := 0) dX4_readContact_63 rfl rfl ?_
  refine a_iconst dX4_readContact_64 (by decide) ?_
  refine a_bipush dX4_readContact_65 (by decide) (by decide) ?_
  refine a_iconst dX4_readContact_67 (by decide) ?_
  obtain ⟨q39, h⟩ := h
  refine k_X4_62 rfl dX4_readContact_68 (Nat.le_of_ble_eq_true rfl) rfl q39.1 q39.2 (St_ho hg St_3) h (fun x19 n20 μ21 h => ?_)
  refine b_istore (L' := [(0, .inr 3), (1, .inl x2), (2, .inl x6), (3, .inl x9), (4, .inl x13), (5, .inl x16), (6, .inl x19)]) [1, 2, 3, 4, 5, 6, 0] dX4_readContact_71 (by decide) rfl ?_
  refine a_aload_n (k := 0) dX4_readContact_73 rfl rfl ?_
  obtain ⟨q38, h⟩ := h
  refine k_X4_66 rfl dX4_readContact_74 (Nat.le_of_ble_eq_true rfl) rfl q38.1 q38.2 (St_ho hg St_3) h (fun n23 μ24 h => ?_)
  refine a_aload_n (k := 0) dX4_readContact_77 rfl rfl ?_
  refine g_X4_26 rfl dX4_readContact_78 (St_ho hg St_3) ?_
  refine a_iconst dX4_readContact_81 (by decide) ?_
  refine a_icmp_ne (tgt := 108) dX4_readContact_82 (by decide) (fun c25 => ?_) (fun c25 => ?_)
  · replace h := h.1 c25
    obtain ⟨q26, h⟩ := h
    exact a_ret dX4_readContact_108 rfl q26.1 q26.2 h
  · replace h := h.2 c25
    refine a_aload_n (k := 0) dX4_readContact_85 rfl rfl ?_
    refine gs_X4_18 rfl dX4_readContact_86 hg St_3 ?_
    obtain ⟨q28, h⟩ := h
    refine a_fx (fun f27 => n_X4_72 rfl dX4_readContact_89 (SH_new hg f27) q28.1 q28.2 (FX_new hg) ?_)
    refine a_dup dX4_readContact_92 ?_
    refine a_iload_n (k := 1) dX4_readContact_93 rfl rfl ?_
    refine a_iload_n (k := 2) dX4_readContact_94 rfl rfl ?_
    refine a_iload_n (k := 3) dX4_readContact_95 rfl rfl ?_
    refine a_iload (k := 4) dX4_readContact_96 rfl ?_
    refine a_iload (k := 5) dX4_readContact_98 rfl ?_
    refine a_iload (k := 6) dX4_readContact_100 rfl ?_
    obtain ⟨q37, h⟩ := h
    refine k_X4_74 rfl dX4_readContact_102 (Nat.le_of_ble_eq_true rfl) rfl q37.1 q37.2 (Int.natCast_nonneg _) h (fun n30 μ31 h => ?_)
    obtain ⟨q36, h⟩ := h
    refine k_X4_77 rfl dX4_readContact_105 (Nat.le_of_ble_eq_true rfl) rfl q36.1 q36.2 (St_ho hg St_4) h (fun n33 μ34 h => ?_)
    obtain ⟨q35, h⟩ := h
    exact a_ret dX4_readContact_108 rfl q35.1 q35.2 h
abbrev B_X4_readNumber_13 (G : GT) (Q : Int → Nat → Mem → Prop) (n : Nat) (μ : Mem) (v1 : Int) (v2 : Int) (v3 : Int) (v4 : Int) (v5 : Int) : Prop := Wa G Y_X4_readNumber (ZI G Y_X4_readNumber Q) 0 0 n μ 13 [(0, .inr 3), (1, .inl v1), (2, .inl v2), (3, .inl v3), (4, .inl v4), (5, .inl v5)] []
abbrev B_X4_readNumber_84 (G : GT) (Q : Int → Nat → Mem → Prop) (n : Nat) (μ : Mem) (v1 : Int) (v2 : Int) (v3 : Int) (v4 : Int) (v5 : Int) : Prop := Wa G Y_X4_readNumber (ZI G Y_X4_readNumber Q) 0 0 n μ 84 [(0, .inr 3), (1, .inl v1), (2, .inl v2), (3, .inl v3), (4, .inl v4), (5, .inl v5)] []
abbrev B_X4_readNumber_113 (G : GT) (Q : Int → Nat → Mem → Prop) (n : Nat) (μ : Mem) (v1 : Int) (v2 : Int) (v3 : Int) (v4 : Int) (v5 : Int) : Prop := Wa G Y_X4_readNumber (ZI G Y_X4_readNumber Q) 0 0 n μ 113 [(0, .inr 3), (1, .inl v1), (2, .inl v2), (3, .inl v3), (4, .inl v4), (5, .inl v5)] []
abbrev B_X4_readNumber_114 (G : GT) (Q : Int → Nat → Mem → Prop) (n : Nat) (μ : Mem) (v1 : Int) (v2 : Int) (v3 : Int) (v4 : Int) (v5 : Int) (u0 : Int) : Prop := Wa G Y_X4_readNumber (ZI G Y_X4_readNumber Q) 0 0 n μ 114 [(0, .inr 3), (1, .inl v1), (2, .inl v2), (3, .inl v3), (4, .inl v4), (5, .inl v5)] [.inl u0]
abbrev B_X4_readNumber_146 (G : GT) (Q : Int → Nat → Mem → Prop) (n : Nat) (μ : Mem) (v4 : Int) (v5 : Int) : Prop := Wa G Y_X4_readNumber (ZI G Y_X4_readNumber Q) 0 0 n μ 146 [(0, .inr 3), (4, .inl v4), (5, .inl v5)] []
theorem m_X4_readNumber {G : GT} (hg : gx G = FX) {n : Nat} {μ : Mem} {Q : Int → Nat → Mem → Prop} {v1 v2 v3 : Int}  (h : (CV G Y_X4_skipBlanks [.inr 3] n μ (fun (n2 : Nat) (μ3 : Mem) => (B_X4_readNumber_13 G Q n2 μ3 v1 v2 v3 (μ3 3 2) 0)))) : CI G Y_X4_readNumber [.inr 3, .inl v1, .inl v2, .inl v3] n μ Q := by
  refine e_I (by decide) (Nat.le_of_ble_eq_true rfl) ?_
  show Wa G Y_X4_readNumber (ZI G Y_X4_readNumber Q) 0 0 n μ 0 [(0, .inr 3), (1, .inl v1), (2, .inl v2), (3, .inl v3)] []
  refine a_aload_n (k := 0) dX4_readNumber_0 rfl rfl ?_
  refine k_X4_32 rfl dX4_readNumber_1 (Nat.le_of_ble_eq_true rfl) rfl (Nat.le_of_ble_eq_true rfl) (Nat.le_of_ble_eq_true rfl) (St_ho hg St_3) h (fun n2 μ3 h => ?_)
  refine a_aload_n (k := 0) dX4_readNumber_4 rfl rfl ?_
  refine g_X4_22 rfl dX4_readNumber_5 (St_ho hg St_3) ?_
  refine b_istore (L' := [(0, .inr 3), (1, .inl v1), (2, .inl v2), (3, .inl v3), (4, .inl (μ3 3 2))]) [1, 2, 3, 4, 0] dX4_readNumber_8 (by decide) rfl ?_
  refine a_iconst dX4_readNumber_10 (by decide) ?_
  refine b_istore (L' := [(0, .inr 3), (1, .inl v1), (2, .inl v2), (3, .inl v3), (4, .inl (μ3 3 2)), (5, .inl 0)]) [1, 2, 3, 4, 5, 0] dX4_readNumber_11 (by decide) rfl ?_
  exact h
theorem b_X4_readNumber_13 {G : GT} (hg : gx G = FX) {n : Nat} {μ : Mem} {Q : Int → Nat → Mem → Prop} {v1 v2 v3 v4 v5 : Int}  (h : (((μ 1 1) ≤ (μ 3 2) → (B_X4_readNumber_84 G Q n μ v1 v2 v3 v4 v5)) ∧ (¬ ((μ 1 1) ≤ (μ 3 2)) → (CI G Y_X9_byteAt [.inr 1, .inl (μ 3 2)] n μ (fun (x2 : Int) (n3 : Nat) (μ4 : Mem) => (CI G Y_X4_isDigit [.inl x2] n3 μ4 (fun (x5 : Int) (n6 : Nat) (μ7 : Mem) => ((x5 = 0 → (B_X4_readNumber_84 G Q n6 μ7 v1 v2 v3 v4 v5)) ∧ (¬ (x5 = 0) → ((inR (v5 * 10)) ∧ (CI G Y_X9_byteAt [.inr 1, .inl (μ7 3 2)] n6 μ7 (fun (x10 : Int) (n11 : Nat) (μ12 : Mem) => ((inR ((v5 * 10) + x10)) ∧ ((inR (((v5 * 10) + x10) - 48)) ∧ ((inR ((μ12 3 2) + 1)) ∧ (B_X4_readNumber_13 G Q n11 (up μ12 3 2 ((μ12 3 2) + 1)) v1 v2 v3 v4 (if 100 < ((v5 * 10) + x10) - 48 then 100 else ((v5 * 10) + x10) - 48))))))))))))))))) : B_X4_readNumber_13 G Q n μ v1 v2 v3 v4 v5 := by
  show Wa G Y_X4_readNumber (ZI G Y_X4_readNumber Q) 0 0 n μ 13 [(0, .inr 3), (1, .inl v1), (2, .inl v2), (3, .inl v3), (4, .inl v4), (5, .inl v5)] []
  refine a_aload_n (k := 0) dX4_readNumber_13 rfl rfl ?_
  refine g_X4_22 rfl dX4_readNumber_14 (St_ho hg St_3) ?_
  refine a_aload_n (k := 0) dX4_readNumber_17 rfl rfl ?_
  refine gs_X4_9 rfl dX4_readNumber_18 hg St_3 ?_
  refine g_X4_35 rfl dX4_readNumber_21 (St_ho hg St_1) ?_
  refine a_icmp_ge (tgt := 84) dX4_readNumber_24 (by decide) (fun c1 => ?_) (fun c1 => ?_)
  · replace h := h.1 c1
    exact h
  · replace h := h.2 c1
    refine a_aload_n (k := 0) dX4_readNumber_27 rfl rfl ?_
    refine gs_X4_9 rfl dX4_readNumber_28 hg St_3 ?_
    refine a_aload_n (k := 0) dX4_readNumber_31 rfl rfl ?_
    refine g_X4_22 rfl dX4_readNumber_32 (St_ho hg St_3) ?_
    refine k_X4_44 rfl dX4_readNumber_35 (Nat.le_of_ble_eq_true rfl) rfl (Nat.le_of_ble_eq_true rfl) (Nat.le_of_ble_eq_true rfl) (St_ho hg St_1) h (fun x2 n3 μ4 h => ?_)
    refine k_X4_81 rfl dX4_readNumber_38 (Nat.le_of_ble_eq_true rfl) rfl (Nat.le_of_ble_eq_true rfl) (Nat.le_of_ble_eq_true rfl) h (fun x5 n6 μ7 h => ?_)
    refine a_if_eq (tgt := 84) dX4_readNumber_41 (by decide) (fun c8 => ?_) (fun c8 => ?_)
    · replace h := h.1 c8
      exact h
    · replace h := h.2 c8
      refine a_iload (k := 5) dX4_readNumber_44 rfl ?_
      refine a_bipush dX4_readNumber_46 (by decide) (by decide) ?_
      obtain ⟨q9, h⟩ := h
      refine a_imul dX4_readNumber_48 q9 ?_
      refine a_aload_n (k := 0) dX4_readNumber_49 rfl rfl ?_
      refine gs_X4_9 rfl dX4_readNumber_50 hg St_3 ?_
      refine a_aload_n (k := 0) dX4_readNumber_53 rfl rfl ?_
      refine g_X4_22 rfl dX4_readNumber_54 (St_ho hg St_3) ?_
      refine k_X4_44 rfl dX4_readNumber_57 (Nat.le_of_ble_eq_true rfl) rfl (Nat.le_of_ble_eq_true rfl) (Nat.le_of_ble_eq_true rfl) (St_ho hg St_1) h (fun x10 n11 μ12 h => ?_)
      obtain ⟨q13, h⟩ := h
      refine a_iadd dX4_readNumber_60 q13 ?_
      refine a_bipush dX4_readNumber_61 (by decide) (by decide) ?_
      obtain ⟨q14, h⟩ := h
      refine a_isub dX4_readNumber_63 q14 ?_
      refine a_bipush dX4_readNumber_64 (by decide) (by decide) ?_
      refine k_X4_85 rfl dX4_readNumber_66 (Nat.le_of_ble_eq_true rfl) rfl rfl (Nat.le_of_ble_eq_true rfl) (Nat.le_of_ble_eq_true rfl) ?_
      refine b_istore (L' := [(0, .inr 3), (1, .inl v1), (2, .inl v2), (3, .inl v3), (4, .inl v4), (5, .inl (if 100 < ((v5 * 10) + x10) - 48 then 100 else ((v5 * 10) + x10) - 48))]) [1, 2, 3, 4, 5, 0] dX4_readNumber_69 (by decide) rfl ?_
      refine a_aload_n (k := 0) dX4_readNumber_71 rfl rfl ?_
      refine a_dup dX4_readNumber_72 ?_
      refine g_X4_22 rfl dX4_readNumber_73 (St_ho hg St_3) ?_
      refine a_iconst dX4_readNumber_76 (by decide) ?_
      obtain ⟨q15, h⟩ := h
      refine a_iadd dX4_readNumber_77 q15 ?_
      refine p_X4_22 rfl dX4_readNumber_78 (St_ho hg St_3) (FX_put hg St_3 rfl) ?_
      refine a_goto (tgt := 13) dX4_readNumber_81 (by decide) ?_
      exact h
theorem b_X4_readNumber_84 {G : GT} (hg : gx G = FX) {n : Nat} {μ : Mem} {Q : Int → Nat → Mem → Prop} {v1 v2 v3 v4 v5 : Int}  (h : ((inR ((μ 3 2) - v4)) ∧ ((((μ 3 2) - v4) ≤ 1 → (B_X4_readNumber_113 G Q n μ v1 v2 v3 v4 v5)) ∧ (¬ (((μ 3 2) - v4) ≤ 1) → (CI G Y_X9_byteAt [.inr 1, .inl v4] n μ (fun (x3 : Int) (n4 : Nat) (μ5 : Mem) => ((¬ (x3 = 48) → (B_X4_readNumber_113 G Q n4 μ5 v1 v2 v3 v4 v5)) ∧ (x3 = 48 → (B_X4_readNumber_114 G Q n4 μ5 v1 v2 v3 v4 v5 1))))))))) : B_X4_readNumber_84 G Q n μ v1 v2 v3 v4 v5 := by
  show Wa G Y_X4_readNumber (ZI G Y_X4_readNumber Q) 0 0 n μ 84 [(0, .inr 3), (1, .inl v1), (2, .inl v2), (3, .inl v3), (4, .inl v4), (5, .inl v5)] []
  refine a_aload_n (k := 0) dX4_readNumber_84 rfl rfl ?_
  refine g_X4_22 rfl dX4_readNumber_85 (St_ho hg St_3) ?_
  refine a_iload (k := 4) dX4_readNumber_88 rfl ?_
  obtain ⟨q1, h⟩ := h
  refine a_isub dX4_readNumber_90 q1 ?_
  refine a_iconst dX4_readNumber_91 (by decide) ?_
  refine a_icmp_le (tgt := 113) dX4_readNumber_92 (by decide) (fun c2 => ?_) (fun c2 => ?_)
  · replace h := h.1 c2
    exact h
  · replace h := h.2 c2
    refine a_aload_n (k := 0) dX4_readNumber_95 rfl rfl ?_
    refine gs_X4_9 rfl dX4_readNumber_96 hg St_3 ?_
    refine a_iload (k := 4) dX4_readNumber_99 rfl ?_
    refine k_X4_44 rfl dX4_readNumber_101 (Nat.le_of_ble_eq_true rfl) rfl (Nat.le_of_ble_eq_true rfl) (Nat.le_of_ble_eq_true rfl) (St_ho hg St_1) h (fun x3 n4 μ5 h => ?_)
    refine a_bipush dX4_readNumber_104 (by decide) (by decide) ?_
    refine a_icmp_ne (tgt := 113) dX4_readNumber_106 (by decide) (fun c6 => ?_) (fun c6 => ?_)
    · replace h := h.1 c6
      exact h
    · replace h := h.2 c6
      refine a_iconst dX4_readNumber_109 (by decide) ?_
      refine a_goto (tgt := 114) dX4_readNumber_110 (by decide) ?_
      exact h
theorem b_X4_readNumber_113 {G : GT} (hg : gx G = FX) {n : Nat} {μ : Mem} {Q : Int → Nat → Mem → Prop} {v1 v2 v3 v4 v5 : Int}  (h : (B_X4_readNumber_114 G Q n μ v1 v2 v3 v4 v5 0)) : B_X4_readNumber_113 G Q n μ v1 v2 v3 v4 v5 := by
  show Wa G Y_X4_readNumber (ZI G Y_X4_readNumber Q) 0 0 n μ 113 [(0, .inr 3), (1, .inl v1), (2, .inl v2), (3, .inl v3), (4, .inl v4), (5, .inl v5)] []
  refine a_iconst dX4_readNumber_113 (by decide) ?_
  exact h
theorem b_X4_readNumber_114 {G : GT} (hg : gx G = FX) {n : Nat} {μ : Mem} {Q : Int → Nat → Mem → Prop} {v1 v2 v3 v4 v5 u0 : Int}  (h : (((μ 3 2) = v4 → (B_X4_readNumber_146 G Q n μ v4 v5)) ∧ (¬ ((μ 3 2) = v4) → ((¬ (u0 = 0) → (B_X4_readNumber_146 G Q n μ v4 v5)) ∧ (u0 = 0 → (CI G Y_X10_isWithin [.inl v5, .inl v1, .inl v2] n μ (fun (x3 : Int) (n4 : Nat) (μ5 : Mem) => ((x3 = 0 → (B_X4_readNumber_146 G Q n4 μ5 v4 v5)) ∧ (¬ (x3 = 0) → ((¬ (v5 = v3) → (Q v5 n4 μ5)) ∧ (v5 = v3 → (B_X4_readNumber_146 G Q n4 μ5 v4 v5)))))))))))) : B_X4_readNumber_114 G Q n μ v1 v2 v3 v4 v5 u0 := by
  show Wa G Y_X4_readNumber (ZI G Y_X4_readNumber Q) 0 0 n μ 114 [(0, .inr 3), (1, .inl v1), (2, .inl v2), (3, .inl v3), (4, .inl v4), (5, .inl v5)] [.inl u0]
  refine b_istore (L' := [(0, .inr 3), (1, .inl v1), (2, .inl v2), (3, .inl v3), (4, .inl v4), (5, .inl v5), (6, .inl u0)]) [1, 2, 3, 4, 5, 6, 0] dX4_readNumber_114 (by decide) rfl ?_
  refine a_aload_n (k := 0) dX4_readNumber_116 rfl rfl ?_
  refine g_X4_22 rfl dX4_readNumber_117 (St_ho hg St_3) ?_
  refine a_iload (k := 4) dX4_readNumber_120 rfl ?_
  refine a_icmp_eq (tgt := 146) dX4_readNumber_122 (by decide) (fun c1 => ?_) (fun c1 => ?_)
  · replace h := h.1 c1
    refine a_sub [0, 4, 5] rfl ?_
    exact h
  · replace h := h.2 c1
    refine a_iload (k := 6) dX4_readNumber_125 rfl ?_
    refine a_if_ne (tgt := 146) dX4_readNumber_127 (by decide) (fun c2 => ?_) (fun c2 => ?_)
    · replace h := h.1 c2
      refine a_sub [0, 4, 5] rfl ?_
      exact h
    · replace h := h.2 c2
      refine a_iload (k := 5) dX4_readNumber_130 rfl ?_
      refine a_iload_n (k := 1) dX4_readNumber_132 rfl rfl ?_
      refine a_iload_n (k := 2) dX4_readNumber_133 rfl rfl ?_
      refine k_X4_91 rfl dX4_readNumber_134 (Nat.le_of_ble_eq_true rfl) rfl (Nat.le_of_ble_eq_true rfl) (Nat.le_of_ble_eq_true rfl) h (fun x3 n4 μ5 h => ?_)
      refine a_if_eq (tgt := 146) dX4_readNumber_137 (by decide) (fun c6 => ?_) (fun c6 => ?_)
      · replace h := h.1 c6
        refine a_sub [0, 4, 5] rfl ?_
        exact h
      · replace h := h.2 c6
        refine a_iload (k := 5) dX4_readNumber_140 rfl ?_
        refine a_iload_n (k := 3) dX4_readNumber_142 rfl rfl ?_
        refine a_icmp_ne (tgt := 152) dX4_readNumber_143 (by decide) (fun c7 => ?_) (fun c7 => ?_)
        · replace h := h.1 c7
          refine a_iload (k := 5) dX4_readNumber_152 rfl ?_
          exact a_iret dX4_readNumber_154 rfl (Nat.le_of_ble_eq_true rfl) (Nat.le_of_ble_eq_true rfl) h
        · replace h := h.2 c7
          refine a_sub [0, 4, 5] rfl ?_
          exact h
theorem b_X4_readNumber_146 {G : GT} (hg : gx G = FX) {n : Nat} {μ : Mem} {Q : Int → Nat → Mem → Prop} {v4 v5 : Int}  (h : (CV G Y_X4_blame [.inr 3, .inl v4] n μ (fun (n2 : Nat) (μ3 : Mem) => (Q v5 n2 μ3)))) : B_X4_readNumber_146 G Q n μ v4 v5 := by
  show Wa G Y_X4_readNumber (ZI G Y_X4_readNumber Q) 0 0 n μ 146 [(0, .inr 3), (4, .inl v4), (5, .inl v5)] []
  refine a_aload_n (k := 0) dX4_readNumber_146 rfl rfl ?_
  refine a_iload (k := 1) dX4_readNumber_147 rfl ?_
  refine k_X4_58 rfl dX4_readNumber_149 (Nat.le_of_ble_eq_true rfl) rfl (Nat.le_of_ble_eq_true rfl) (Nat.le_of_ble_eq_true rfl) (St_ho hg St_3) h (fun n2 μ3 h => ?_)
  refine a_iload (k := 2) dX4_readNumber_152 rfl ?_
  exact a_iret dX4_readNumber_154 rfl (Nat.le_of_ble_eq_true rfl) (Nat.le_of_ble_eq_true rfl) h
theorem m_X4_readSemicolon {G : GT} (hg : gx G = FX) {n : Nat} {μ : Mem} {Q : Nat → Mem → Prop}  (h : (CV G Y_X4_skipBlanks [.inr 3] n μ (fun (n2 : Nat) (μ3 : Mem) => (CI G Y_X9_byteAt [.inr 1, .inl (μ3 3 2)] n2 μ3 (fun (x4 : Int) (n5 : Nat) (μ6 : Mem) => ((¬ (x4 = 59) → (CV G Y_X4_blame [.inr 3, .inl (μ6 3 2)] n5 μ6 (fun (n9 : Nat) (μ10 : Mem) => (Q n9 μ10)))) ∧ (x4 = 59 → ((inR ((μ6 3 2) + 1)) ∧ (Q n5 (up μ6 3 2 ((μ6 3 2) + 1))))))))))) : CV G Y_X4_readSemicolon [.inr 3] n μ Q := by
  refine e_V (by decide) (Nat.le_of_ble_eq_true rfl) ?_
  show Wa G Y_X4_readSemicolon (ZV G Y_X4_readSemicolon Q) 0 0 n μ 0 [(0, .inr 3)] []
  refine a_aload_n (k := 0) dX4_readSemicolon_0 rfl rfl ?_
  refine k_X4_32 rfl dX4_readSemicolon_1 (Nat.le_of_ble_eq_true rfl) rfl (Nat.le_of_ble_eq_true rfl) (Nat.le_of_ble_eq_true rfl) (St_ho hg St_3) h (fun n2 μ3 h => ?_)
  refine a_aload_n (k := 0) dX4_readSemicolon_4 rfl rfl ?_
  refine gs_X4_9 rfl dX4_readSemicolon_5 hg St_3 ?_
  refine a_aload_n (k := 0) dX4_readSemicolon_8 rfl rfl ?_
  refine g_X4_22 rfl dX4_readSemicolon_9 (St_ho hg St_3) ?_
  refine k_X4_44 rfl dX4_readSemicolon_12 (Nat.le_of_ble_eq_true rfl) rfl (Nat.le_of_ble_eq_true rfl) (Nat.le_of_ble_eq_true rfl) (St_ho hg St_1) h (fun x4 n5 μ6 h => ?_)
  refine a_bipush dX4_readSemicolon_15 (by decide) (by decide) ?_
  refine a_icmp_ne (tgt := 33) dX4_readSemicolon_17 (by decide) (fun c7 => ?_) (fun c7 => ?_)
  · replace h := h.1 c7
    refine a_aload_n (k := 0) dX4_readSemicolon_33 rfl rfl ?_
    refine a_aload_n (k := 0) dX4_readSemicolon_34 rfl rfl ?_
    refine g_X4_22 rfl dX4_readSemicolon_35 (St_ho hg St_3) ?_
    refine k_X4_58 rfl dX4_readSemicolon_38 (Nat.le_of_ble_eq_true rfl) rfl (Nat.le_of_ble_eq_true rfl) (Nat.le_of_ble_eq_true rfl) (St_ho hg St_3) h (fun n9 μ10 h => ?_)
    exact a_ret dX4_readSemicolon_41 rfl (Nat.le_of_ble_eq_true rfl) (Nat.le_of_ble_eq_true rfl) h
  · replace h := h.2 c7
    refine a_aload_n (k := 0) dX4_readSemicolon_20 rfl rfl ?_
    refine a_dup dX4_readSemicolon_21 ?_
    refine g_X4_22 rfl dX4_readSemicolon_22 (St_ho hg St_3) ?_
    refine a_iconst dX4_readSemicolon_25 (by decide) ?_
    obtain ⟨q11, h⟩ := h
    refine a_iadd dX4_readSemicolon_26 q11 ?_
    refine p_X4_22 rfl dX4_readSemicolon_27 (St_ho hg St_3) (FX_put hg St_3 rfl) ?_
    refine a_goto (tgt := 41) dX4_readSemicolon_30 (by decide) ?_
    exact a_ret dX4_readSemicolon_41 rfl (Nat.le_of_ble_eq_true rfl) (Nat.le_of_ble_eq_true rfl) h
abbrev B_X4_skipBlanks_0 (G : GT) (Q : Nat → Mem → Prop) (n : Nat) (μ : Mem) : Prop := Wa G Y_X4_skipBlanks (ZV G Y_X4_skipBlanks Q) 0 0 n μ 0 [(0, .inr 3)] []
theorem b_X4_skipBlanks_0 {G : GT} (hg : gx G = FX) {n : Nat} {μ : Mem} {Q : Nat → Mem → Prop}  (h : (((μ 1 1) ≤ (μ 3 2) → (Q n μ)) ∧ (¬ ((μ 1 1) ≤ (μ 3 2)) → (CI G Y_X9_byteAt [.inr 1, .inl (μ 3 2)] n μ (fun (x2 : Int) (n3 : Nat) (μ4 : Mem) => ((¬ (x2 = 32) → (Q n3 μ4)) ∧ (x2 = 32 → ((inR ((μ4 3 2) + 1)) ∧ (B_X4_skipBlanks_0 G Q n3 (up μ4 3 2 ((μ4 3 2) + 1))))))))))) : B_X4_skipBlanks_0 G Q n μ := by
  show Wa G Y_X4_skipBlanks (ZV G Y_X4_skipBlanks Q) 0 0 n μ 0 [(0, .inr 3)] []
  refine a_aload_n (k := 0) dX4_skipBlanks_0 rfl rfl ?_
  refine g_X4_22 rfl dX4_skipBlanks_1 (St_ho hg St_3) ?_
  refine a_aload_n (k := 0) dX4_skipBlanks_4 rfl rfl ?_
  refine gs_X4_9 rfl dX4_skipBlanks_5 hg St_3 ?_
  refine g_X4_35 rfl dX4_skipBlanks_8 (St_ho hg St_1) ?_
  refine a_icmp_ge (tgt := 43) dX4_skipBlanks_11 (by decide) (fun c1 => ?_) (fun c1 => ?_)
  · replace h := h.1 c1
    exact a_ret dX4_skipBlanks_43 rfl (Nat.le_of_ble_eq_true rfl) (Nat.le_of_ble_eq_true rfl) h
  · replace h := h.2 c1
    refine a_aload_n (k := 0) dX4_skipBlanks_14 rfl rfl ?_
    refine gs_X4_9 rfl dX4_skipBlanks_15 hg St_3 ?_
    refine a_aload_n (k := 0) dX4_skipBlanks_18 rfl rfl ?_
    refine g_X4_22 rfl dX4_skipBlanks_19 (St_ho hg St_3) ?_
    refine k_X4_44 rfl dX4_skipBlanks_22 (Nat.le_of_ble_eq_true rfl) rfl (Nat.le_of_ble_eq_true rfl) (Nat.le_of_ble_eq_true rfl) (St_ho hg St_1) h (fun x2 n3 μ4 h => ?_)
    refine a_bipush dX4_skipBlanks_25 (by decide) (by decide) ?_
    refine a_icmp_ne (tgt := 43) dX4_skipBlanks_27 (by decide) (fun c5 => ?_) (fun c5 => ?_)
    · replace h := h.1 c5
      exact a_ret dX4_skipBlanks_43 rfl (Nat.le_of_ble_eq_true rfl) (Nat.le_of_ble_eq_true rfl) h
    · replace h := h.2 c5
      refine a_aload_n (k := 0) dX4_skipBlanks_30 rfl rfl ?_
      refine a_dup dX4_skipBlanks_31 ?_
      refine g_X4_22 rfl dX4_skipBlanks_32 (St_ho hg St_3) ?_
      refine a_iconst dX4_skipBlanks_35 (by decide) ?_
      obtain ⟨q6, h⟩ := h
      refine a_iadd dX4_skipBlanks_36 q6 ?_
      refine p_X4_22 rfl dX4_skipBlanks_37 (St_ho hg St_3) (FX_put hg St_3 rfl) ?_
      refine a_goto (tgt := 0) dX4_skipBlanks_40 (by decide) ?_
      exact h
theorem m_X4_skipBlanks {G : GT} (hg : gx G = FX) {n : Nat} {μ : Mem} {Q : Nat → Mem → Prop}  (h : B_X4_skipBlanks_0 G Q n μ) : CV G Y_X4_skipBlanks [.inr 3] n μ Q := e_V (by decide) (Nat.le_of_ble_eq_true rfl) h
theorem m_X4_isDigit {G : GT} (hg : gx G = FX) {n : Nat} {μ : Mem} {Q : Int → Nat → Mem → Prop} {v0 : Int}  (h : ((v0 < 48 → (Q 0 n μ)) ∧ (¬ (v0 < 48) → ((57 < v0 → (Q 0 n μ)) ∧ (¬ (57 < v0) → (Q 1 n μ)))))) : CI G Y_X4_isDigit [.inl v0] n μ Q := by
  refine e_I (by decide) (Nat.le_of_ble_eq_true rfl) ?_
  show Wa G Y_X4_isDigit (ZI G Y_X4_isDigit Q) 0 0 n μ 0 [(0, .inl v0)] []
  refine a_iload_n (k := 0) dX4_isDigit_0 rfl rfl ?_
  refine a_bipush dX4_isDigit_1 (by decide) (by decide) ?_
  refine a_icmp_lt (tgt := 16) dX4_isDigit_3 (by decide) (fun c1 => ?_) (fun c1 => ?_)
  · replace h := h.1 c1
    refine a_iconst dX4_isDigit_16 (by decide) ?_
    exact a_zret dX4_isDigit_17 rfl (Nat.le_of_ble_eq_true rfl) (Nat.le_of_ble_eq_true rfl) (by decide) h
  · replace h := h.2 c1
    refine a_iload_n (k := 0) dX4_isDigit_6 rfl rfl ?_
    refine a_bipush dX4_isDigit_7 (by decide) (by decide) ?_
    refine a_icmp_gt (tgt := 16) dX4_isDigit_9 (by decide) (fun c2 => ?_) (fun c2 => ?_)
    · replace h := h.1 c2
      refine a_iconst dX4_isDigit_16 (by decide) ?_
      exact a_zret dX4_isDigit_17 rfl (Nat.le_of_ble_eq_true rfl) (Nat.le_of_ble_eq_true rfl) (by decide) h
    · replace h := h.2 c2
      refine a_iconst dX4_isDigit_12 (by decide) ?_
      refine a_goto (tgt := 17) dX4_isDigit_13 (by decide) ?_
      exact a_zret dX4_isDigit_17 rfl (Nat.le_of_ble_eq_true rfl) (Nat.le_of_ble_eq_true rfl) (by decide) h
theorem m_X4_blame {G : GT} (hg : gx G = FX) {n : Nat} {μ : Mem} {Q : Nat → Mem → Prop} {v1 : Int}  (h : ((¬ ((μ 3 3) = (-1)) → (Q n μ)) ∧ ((μ 3 3) = (-1) → (Q n (up μ 3 3 v1))))) : CV G Y_X4_blame [.inr 3, .inl v1] n μ Q := by
  refine e_V (by decide) (Nat.le_of_ble_eq_true rfl) ?_
  show Wa G Y_X4_blame (ZV G Y_X4_blame Q) 0 0 n μ 0 [(0, .inr 3), (1, .inl v1)] []
  refine a_aload_n (k := 0) dX4_blame_0 rfl rfl ?_
  refine g_X4_26 rfl dX4_blame_1 (St_ho hg St_3) ?_
  refine a_iconst dX4_blame_4 (by decide) ?_
  refine a_icmp_ne (tgt := 13) dX4_blame_5 (by decide) (fun c1 => ?_) (fun c1 => ?_)
  · replace h := h.1 c1
    exact a_ret dX4_blame_13 rfl (Nat.le_of_ble_eq_true rfl) (Nat.le_of_ble_eq_true rfl) h
  · replace h := h.2 c1
    refine a_aload_n (k := 0) dX4_blame_8 rfl rfl ?_
    refine a_iload_n (k := 1) dX4_blame_9 rfl rfl ?_
    refine p_X4_26 rfl dX4_blame_10 (St_ho hg St_3) (FX_put hg St_3 rfl) ?_
    exact a_ret dX4_blame_13 rfl (Nat.le_of_ble_eq_true rfl) (Nat.le_of_ble_eq_true rfl) h
theorem m_X0_start {G : GT} (hg : gx G = FX) {n : Nat} {μ : Mem} {Q : Nat → Mem → Prop} {v0 v1 v2 v3 v4 v5 : Int} (o0 : St v0 0 9) (h : (CV G Y_X8_cut [.inr (v0 + 1), .inl 0] n (up (up (up (up (up (up (up μ v0 2 v1) v0 3 v2) v0 4 v3) v0 5 v4) v0 6 v5) v0 7 0) v0 8 0) (fun (n2 : Nat) (μ3 : Mem) => (Q n2 μ3)))) : CV G Y_X0_start [.inr v0, .inl v1, .inl v2, .inl v3, .inl v4, .inl v5] n μ Q := by
  refine e_V (by decide) (Nat.le_of_ble_eq_true rfl) ?_
  show Wa G Y_X0_start (ZV G Y_X0_start Q) 0 0 n μ 0 [(0, .inr v0), (1, .inl v1), (2, .inl v2), (3, .inl v3), (4, .inl v4), (5, .inl v5)] []
  refine a_aload_n (k := 0) dX0_start_0 rfl rfl ?_
  refine a_iload_n (k := 1) dX0_start_1 rfl rfl ?_
  refine p_X0_24 rfl dX0_start_2 (St_ho hg o0) (FX_put hg o0 rfl) ?_
  refine a_aload_n (k := 0) dX0_start_5 rfl rfl ?_
  refine a_iload_n (k := 2) dX0_start_6 rfl rfl ?_
  refine p_X0_28 rfl dX0_start_7 (St_ho hg o0) (FX_put hg o0 rfl) ?_
  refine a_aload_n (k := 0) dX0_start_10 rfl rfl ?_
  refine a_iload_n (k := 3) dX0_start_11 rfl rfl ?_
  refine p_X0_31 rfl dX0_start_12 (St_ho hg o0) (FX_put hg o0 rfl) ?_
  refine a_aload_n (k := 0) dX0_start_15 rfl rfl ?_
  refine a_iload (k := 4) dX0_start_16 rfl ?_
  refine p_X0_34 rfl dX0_start_18 (St_ho hg o0) (FX_put hg o0 rfl) ?_
  refine a_aload_n (k := 0) dX0_start_21 rfl rfl ?_
  refine a_iload (k := 5) dX0_start_22 rfl ?_
  refine p_X0_37 rfl dX0_start_24 (St_ho hg o0) (FX_put hg o0 rfl) ?_
  refine a_aload_n (k := 0) dX0_start_27 rfl rfl ?_
  refine a_iconst dX0_start_28 (by decide) ?_
  refine p_X0_40 rfl dX0_start_29 (St_ho hg o0) (by decide) (FX_put hg o0 rfl) ?_
  refine a_aload_n (k := 0) dX0_start_32 rfl rfl ?_
  refine a_iconst dX0_start_33 (by decide) ?_
  refine p_X0_44 rfl dX0_start_34 (St_ho hg o0) (FX_put hg o0 rfl) ?_
  refine a_aload_n (k := 0) dX0_start_37 rfl rfl ?_
  refine gs_X0_20 rfl dX0_start_38 hg o0 ?_
  refine a_iconst dX0_start_41 (by decide) ?_
  refine k_X0_47 rfl dX0_start_42 (Nat.le_of_ble_eq_true rfl) rfl (Nat.le_of_ble_eq_true rfl) (Nat.le_of_ble_eq_true rfl) (St_ho hg (st_0_1 o0)) h (fun n2 μ3 h => ?_)
  exact a_ret dX0_start_45 rfl (Nat.le_of_ble_eq_true rfl) (Nat.le_of_ble_eq_true rfl) h
theorem m_X0_copyFrom {G : GT} (hg : gx G = FX) {n : Nat} {μ : Mem} {Q : Nat → Mem → Prop} {v0 v1 : Int} (o0 : St v0 0 9) (o1 : St v1 0 9) (h : (CV G Y_X0_start [.inr v0, .inl (μ v1 2), .inl (μ v1 3), .inl (μ v1 4), .inl (μ v1 5), .inl (μ v1 6)] n μ (fun (n2 : Nat) (μ3 : Mem) => ((μ3 v1 7 = 0 ∨ μ3 v1 7 = 1) → (((μ3 v1 7) = 0 ∨ (μ3 v1 7) = 1) ∧ (CV G Y_X8_copyFrom [.inr (v0 + 1), .inr (v1 + 1)] n2 (up (up μ3 v0 7 (μ3 v1 7)) v0 8 ((up μ3 v0 7 (μ3 v1 7)) v1 8)) (fun (n7 : Nat) (μ8 : Mem) => (Q n7 μ8)))))))) : CV G Y_X0_copyFrom [.inr v0, .inr v1] n μ Q := by
  refine e_V (by decide) (Nat.le_of_ble_eq_true rfl) ?_
  show Wa G Y_X0_copyFrom (ZV G Y_X0_copyFrom Q) 0 0 n μ 0 [(0, .inr v0), (1, .inr v1)] []
  refine a_aload_n (k := 0) dX0_copyFrom_0 rfl rfl ?_
  refine a_aload_n (k := 1) dX0_copyFrom_1 rfl rfl ?_
  refine g_X0_24 rfl dX0_copyFrom_2 (St_ho hg o1) ?_
  refine a_aload_n (k := 1) dX0_copyFrom_5 rfl rfl ?_
  refine g_X0_28 rfl dX0_copyFrom_6 (St_ho hg o1) ?_
  refine a_aload_n (k := 1) dX0_copyFrom_9 rfl rfl ?_
  refine g_X0_31 rfl dX0_copyFrom_10 (St_ho hg o1) ?_
  refine a_aload_n (k := 1) dX0_copyFrom_13 rfl rfl ?_
  refine g_X0_34 rfl dX0_copyFrom_14 (St_ho hg o1) ?_
  refine a_aload_n (k := 1) dX0_copyFrom_17 rfl rfl ?_
  refine g_X0_37 rfl dX0_copyFrom_18 (St_ho hg o1) ?_
  refine k_X0_51 rfl dX0_copyFrom_21 (Nat.le_of_ble_eq_true rfl) rfl (Nat.le_of_ble_eq_true rfl) (Nat.le_of_ble_eq_true rfl) (St_ho hg o0) h (fun n2 μ3 h => ?_)
  refine a_aload_n (k := 0) dX0_copyFrom_24 rfl rfl ?_
  refine a_aload_n (k := 1) dX0_copyFrom_25 rfl rfl ?_
  refine g_X0_40 rfl dX0_copyFrom_26 (St_ho hg o1) (fun z4 => ?_)
  replace h := h z4
  obtain ⟨q5, h⟩ := h
  refine p_X0_40 rfl dX0_copyFrom_29 (St_ho hg o0) q5 (FX_put hg o0 rfl) ?_
  refine a_aload_n (k := 0) dX0_copyFrom_32 rfl rfl ?_
  refine a_aload_n (k := 1) dX0_copyFrom_33 rfl rfl ?_
  refine g_X0_44 rfl dX0_copyFrom_34 (St_ho hg o1) ?_
  refine p_X0_44 rfl dX0_copyFrom_37 (St_ho hg o0) (FX_put hg o0 rfl) ?_
  refine a_aload_n (k := 0) dX0_copyFrom_40 rfl rfl ?_
  refine gs_X0_20 rfl dX0_copyFrom_41 hg o0 ?_
  refine a_aload_n (k := 1) dX0_copyFrom_44 rfl rfl ?_
  refine gs_X0_20 rfl dX0_copyFrom_45 hg o1 ?_
  refine k_X0_55 rfl dX0_copyFrom_48 (Nat.le_of_ble_eq_true rfl) rfl (Nat.le_of_ble_eq_true rfl) (Nat.le_of_ble_eq_true rfl) (St_ho hg (st_0_1 o0)) h (fun n7 μ8 h => ?_)
  exact a_ret dX0_copyFrom_51 rfl (Nat.le_of_ble_eq_true rfl) (Nat.le_of_ble_eq_true rfl) h
theorem m_X0_standing {G : GT} (hg : gx G = FX) {n : Nat} {μ : Mem} {Q : Int → Nat → Mem → Prop} {v0 v1 : Int} (o0 : St v0 0 9) (h : ((¬ ((μ v0 2) = (μ v0 3)) → ((μ v0 7 = 0 ∨ μ v0 7 = 1) → (((μ v0 7) = 0 → ((v1 ≤ (μ v0 5) → (CI G Y_X0_lastNode [.inr v0] n μ (fun (x5 : Int) (n6 : Nat) (μ7 : Mem) => ((¬ (x5 = (μ7 v0 3)) → (Q 0 n6 μ7)) ∧ (x5 = (μ7 v0 3) → (Q 1 n6 μ7)))))) ∧ (¬ (v1 ≤ (μ v0 5)) → (Q 3 n μ)))) ∧ (¬ ((μ v0 7) = 0) → (Q 4 n μ))))) ∧ ((μ v0 2) = (μ v0 3) → (Q 2 n μ)))) : CI G Y_X0_standing [.inr v0, .inl v1] n μ Q := by
  refine e_I (by decide) (Nat.le_of_ble_eq_true rfl) ?_
  show Wa G Y_X0_standing (ZI G Y_X0_standing Q) 0 0 n μ 0 [(0, .inr v0), (1, .inl v1)] []
  refine a_aload_n (k := 0) dX0_standing_0 rfl rfl ?_
  refine g_X0_24 rfl dX0_standing_1 (St_ho hg o0) ?_
  refine a_aload_n (k := 0) dX0_standing_4 rfl rfl ?_
  refine g_X0_28 rfl dX0_standing_5 (St_ho hg o0) ?_
  refine a_icmp_ne (tgt := 13) dX0_standing_8 (by decide) (fun c1 => ?_) (fun c1 => ?_)
  · replace h := h.1 c1
    refine a_aload_n (k := 0) dX0_standing_13 rfl rfl ?_
    refine g_X0_40 rfl dX0_standing_14 (St_ho hg o0) (fun z2 => ?_)
    replace h := h z2
    refine a_if_eq (tgt := 22) dX0_standing_17 (by decide) (fun c3 => ?_) (fun c3 => ?_)
    · replace h := h.1 c3
      refine a_iload_n (k := 1) dX0_standing_22 rfl rfl ?_
      refine a_aload_n (k := 0) dX0_standing_23 rfl rfl ?_
      refine g_X0_34 rfl dX0_standing_24 (St_ho hg o0) ?_
      refine a_icmp_le (tgt := 32) dX0_standing_27 (by decide) (fun c4 => ?_) (fun c4 => ?_)
      · replace h := h.1 c4
        refine a_aload_n (k := 0) dX0_standing_32 rfl rfl ?_
        refine k_X0_59 rfl dX0_standing_33 (Nat.le_of_ble_eq_true rfl) rfl (Nat.le_of_ble_eq_true rfl) (Nat.le_of_ble_eq_true rfl) (St_ho hg o0) h (fun x5 n6 μ7 h => ?_)
        refine a_aload_n (k := 0) dX0_standing_36 rfl rfl ?_
        refine g_X0_28 rfl dX0_standing_37 (St_ho hg o0) ?_
        refine a_icmp_ne (tgt := 47) dX0_standing_40 (by decide) (fun c8 => ?_) (fun c8 => ?_)
        · replace h := h.1 c8
          refine a_iconst dX0_standing_47 (by decide) ?_
          exact a_iret dX0_standing_48 rfl (Nat.le_of_ble_eq_true rfl) (Nat.le_of_ble_eq_true rfl) h
        · replace h := h.2 c8
          refine a_iconst dX0_standing_43 (by decide) ?_
          refine a_goto (tgt := 48) dX0_standing_44 (by decide) ?_
          exact a_iret dX0_standing_48 rfl (Nat.le_of_ble_eq_true rfl) (Nat.le_of_ble_eq_true rfl) h
      · replace h := h.2 c4
        refine a_iconst dX0_standing_30 (by decide) ?_
        exact a_iret dX0_standing_31 rfl (Nat.le_of_ble_eq_true rfl) (Nat.le_of_ble_eq_true rfl) h
    · replace h := h.2 c3
      refine a_iconst dX0_standing_20 (by decide) ?_
      exact a_iret dX0_standing_21 rfl (Nat.le_of_ble_eq_true rfl) (Nat.le_of_ble_eq_true rfl) h
  · replace h := h.2 c1
    refine a_iconst dX0_standing_11 (by decide) ?_
    exact a_iret dX0_standing_12 rfl (Nat.le_of_ble_eq_true rfl) (Nat.le_of_ble_eq_true rfl) h
theorem m_X0_lastNode {G : GT} (hg : gx G = FX) {n : Nat} {μ : Mem} {Q : Int → Nat → Mem → Prop} {v0 : Int} (o0 : St v0 0 9) (h : ((¬ ((μ (v0 + 1) 2) = 0) → ((inR ((μ (v0 + 1) 2) - 1)) ∧ (CI G Y_X8_at [.inr (v0 + 1), .inl ((μ (v0 + 1) 2) - 1), .inl 0] n μ (fun (x3 : Int) (n4 : Nat) (μ5 : Mem) => (CR G Y_X3_contactAt [.inr 7, .inl x3] n4 μ5 (fun (x6 : Int) (n7 : Nat) (μ8 : Mem) => ((Co n7 x6) ∧ (Q (μ8 x6 1) n7 μ8)))))))) ∧ ((μ (v0 + 1) 2) = 0 → (Q (μ v0 2) n μ)))) : CI G Y_X0_lastNode [.inr v0] n μ Q := by
  refine e_I (by decide) (Nat.le_of_ble_eq_true rfl) ?_
  show Wa G Y_X0_lastNode (ZI G Y_X0_lastNode Q) 0 0 n μ 0 [(0, .inr v0)] []
  refine a_aload_n (k := 0) dX0_lastNode_0 rfl rfl ?_
  refine gs_X0_20 rfl dX0_lastNode_1 hg o0 ?_
  refine g_X0_63 rfl dX0_lastNode_4 (St_ho hg (st_0_1 o0)) ?_
  refine a_if_ne (tgt := 15) dX0_lastNode_7 (by decide) (fun c1 => ?_) (fun c1 => ?_)
  · replace h := h.1 c1
    refine a_aload_n (k := 0) dX0_lastNode_15 rfl rfl ?_
    refine gs_X0_9 rfl dX0_lastNode_16 hg o0 ?_
    refine a_aload_n (k := 0) dX0_lastNode_19 rfl rfl ?_
    refine gs_X0_20 rfl dX0_lastNode_20 hg o0 ?_
    refine a_aload_n (k := 0) dX0_lastNode_23 rfl rfl ?_
    refine gs_X0_20 rfl dX0_lastNode_24 hg o0 ?_
    refine g_X0_63 rfl dX0_lastNode_27 (St_ho hg (st_0_1 o0)) ?_
    refine a_iconst dX0_lastNode_30 (by decide) ?_
    obtain ⟨q2, h⟩ := h
    refine a_isub dX0_lastNode_31 q2 ?_
    refine a_iconst dX0_lastNode_32 (by decide) ?_
    refine k_X0_66 rfl dX0_lastNode_33 (Nat.le_of_ble_eq_true rfl) rfl (Nat.le_of_ble_eq_true rfl) (Nat.le_of_ble_eq_true rfl) (St_ho hg (st_0_1 o0)) h (fun x3 n4 μ5 h => ?_)
    refine k_X0_70 rfl dX0_lastNode_36 (Nat.le_of_ble_eq_true rfl) rfl (Nat.le_of_ble_eq_true rfl) (Nat.le_of_ble_eq_true rfl) (St_ho hg St_7) h (fun x6 n7 μ8 _ h => ?_)
    obtain ⟨q9, h⟩ := h
    refine g_X0_76 rfl dX0_lastNode_39 (fun _ => q9) ?_
    exact a_iret dX0_lastNode_42 rfl (Nat.le_of_ble_eq_true rfl) (Nat.le_of_ble_eq_true rfl) h
  · replace h := h.2 c1
    refine a_aload_n (k := 0) dX0_lastNode_10 rfl rfl ?_
    refine g_X0_24 rfl dX0_lastNode_11 (St_ho hg o0) ?_
    exact a_iret dX0_lastNode_14 rfl (Nat.le_of_ble_eq_true rfl) (Nat.le_of_ble_eq_true rfl) h
theorem m_X0_lastThere {G : GT} (hg : gx G = FX) {n : Nat} {μ : Mem} {Q : Int → Nat → Mem → Prop} {v0 : Int} (o0 : St v0 0 9) (h : ((inR ((μ (v0 + 1) 2) - 1)) ∧ (CI G Y_X8_at [.inr (v0 + 1), .inl ((μ (v0 + 1) 2) - 1), .inl 3] n μ (fun (x2 : Int) (n3 : Nat) (μ4 : Mem) => (Q x2 n3 μ4))))) : CI G Y_X0_lastThere [.inr v0] n μ Q := by
  refine e_I (by decide) (Nat.le_of_ble_eq_true rfl) ?_
  show Wa G Y_X0_lastThere (ZI G Y_X0_lastThere Q) 0 0 n μ 0 [(0, .inr v0)] []
  refine a_aload_n (k := 0) dX0_lastThere_0 rfl rfl ?_
  refine gs_X0_20 rfl dX0_lastThere_1 hg o0 ?_
  refine a_aload_n (k := 0) dX0_lastThere_4 rfl rfl ?_
  refine gs_X0_20 rfl dX0_lastThere_5 hg o0 ?_
  refine g_X0_63 rfl dX0_lastThere_8 (St_ho hg (st_0_1 o0)) ?_
  refine a_iconst dX0_lastThere_11 (by decide) ?_
  obtain ⟨q1, h⟩ := h
  refine a_isub dX0_lastThere_12 q1 ?_
  refine a_iconst dX0_lastThere_13 (by decide) ?_
  refine k_X0_66 rfl dX0_lastThere_14 (Nat.le_of_ble_eq_true rfl) rfl (Nat.le_of_ble_eq_true rfl) (Nat.le_of_ble_eq_true rfl) (St_ho hg (st_0_1 o0)) h (fun x2 n3 μ4 h => ?_)
  exact a_iret dX0_lastThere_17 rfl (Nat.le_of_ble_eq_true rfl) (Nat.le_of_ble_eq_true rfl) h
theorem m_X0_property {G : GT} (hg : gx G = FX) {n : Nat} {μ : Mem} {Q : Int → Nat → Mem → Prop} {v0 v1 v2 : Int} (o0 : St v0 0 9) (h : (((v1 < 0 ∨ 8 < v1) → (Q (-1) n μ)) ∧ (v1 = 0 → (CI G Y_X0_standing [.inr v0, .inl v2] n μ (fun (x4 : Int) (n5 : Nat) (μ6 : Mem) => (Q x4 n5 μ6)))) ∧ (v1 = 1 → (Q (μ v0 2) n μ)) ∧ (v1 = 2 → (CI G Y_X0_lastThere [.inr v0] n μ (fun (x7 : Int) (n8 : Nat) (μ9 : Mem) => (Q x7 n8 μ9)))) ∧ (v1 = 3 → (Q (μ (v0 + 1) 2) n μ)) ∧ (v1 = 4 → (Q (μ v0 6) n μ)) ∧ (v1 = 5 → (Q (μ v0 4) n μ)) ∧ (v1 = 6 → (Q (μ v0 5) n μ)) ∧ (v1 = 7 → (Q (μ v0 3) n μ)) ∧ (v1 = 8 → (CI G Y_X0_standing [.inr v0, .inl v2] n μ (fun (x10 : Int) (n11 : Nat) (μ12 : Mem) => ((¬ (x10 = 0) → (Q (-9) n11 μ12)) ∧ (x10 = 0 → (Q (μ12 v0 8) n11 μ12)))))))) : CI G Y_X0_property [.inr v0, .inl v1, .inl v2] n μ Q := by
  refine e_I (by decide) (Nat.le_of_ble_eq_true rfl) ?_
  show Wa G Y_X0_property (ZI G Y_X0_property Q) 0 0 n μ 0 [(0, .inr v0), (1, .inl v1), (2, .inl v2)] []
  refine a_iload_n (k := 1) dX0_property_0 rfl rfl ?_
  refine a_table (tgt := 114) dX0_property_1 (by decide) (fun c1 c2 => ?_) (fun c1 => ?_)
  · rcases (show v1 = 0 ∨ v1 = 1 ∨ v1 = 2 ∨ v1 = 3 ∨ v1 = 4 ∨ v1 = 5 ∨ v1 = 6 ∨ v1 = 7 ∨ v1 = 8 by omega) with e3 | e3 | e3 | e3 | e3 | e3 | e3 | e3 | e3
    · replace h := h.2.1 e3
      refine ⟨51, 52, by rw [e3]; rfl, by decide, ?_⟩
      refine a_aload_n (k := 0) dX0_property_52 rfl rfl ?_
      refine a_iload_n (k := 2) dX0_property_53 rfl rfl ?_
      refine k_X0_81 rfl dX0_property_54 (Nat.le_of_ble_eq_true rfl) rfl (Nat.le_of_ble_eq_true rfl) (Nat.le_of_ble_eq_true rfl) (St_ho hg o0) h (fun x4 n5 μ6 h => ?_)
      exact a_iret dX0_property_57 rfl (Nat.le_of_ble_eq_true rfl) (Nat.le_of_ble_eq_true rfl) h
    · replace h := h.2.2.1 e3
      refine ⟨57, 58, by rw [e3]; rfl, by decide, ?_⟩
      refine a_aload_n (k := 0) dX0_property_58 rfl rfl ?_
      refine g_X0_24 rfl dX0_property_59 (St_ho hg o0) ?_
      exact a_iret dX0_property_62 rfl (Nat.le_of_ble_eq_true rfl) (Nat.le_of_ble_eq_true rfl) h
    · replace h := h.2.2.2.1 e3
      refine ⟨62, 63, by rw [e3]; rfl, by decide, ?_⟩
      refine a_aload_n (k := 0) dX0_property_63 rfl rfl ?_
      refine k_X0_85 rfl dX0_property_64 (Nat.le_of_ble_eq_true rfl) rfl (Nat.le_of_ble_eq_true rfl) (Nat.le_of_ble_eq_true rfl) (St_ho hg o0) h (fun x7 n8 μ9 h => ?_)
      exact a_iret dX0_property_67 rfl (Nat.le_of_ble_eq_true rfl) (Nat.le_of_ble_eq_true rfl) h
    · replace h := h.2.2.2.2.1 e3
      refine ⟨67, 68, by rw [e3]; rfl, by decide, ?_⟩
      refine a_aload_n (k := 0) dX0_property_68 rfl rfl ?_
      refine gs_X0_20 rfl dX0_property_69 hg o0 ?_
      refine g_X0_63 rfl dX0_property_72 (St_ho hg (st_0_1 o0)) ?_
      exact a_iret dX0_property_75 rfl (Nat.le_of_ble_eq_true rfl) (Nat.le_of_ble_eq_true rfl) h
    · replace h := h.2.2.2.2.2.1 e3
      refine ⟨75, 76, by rw [e3]; rfl, by decide, ?_⟩
      refine a_aload_n (k := 0) dX0_property_76 rfl rfl ?_
      refine g_X0_37 rfl dX0_property_77 (St_ho hg o0) ?_
      exact a_iret dX0_property_80 rfl (Nat.le_of_ble_eq_true rfl) (Nat.le_of_ble_eq_true rfl) h
    · replace h := h.2.2.2.2.2.2.1 e3
      refine ⟨80, 81, by rw [e3]; rfl, by decide, ?_⟩
      refine a_aload_n (k := 0) dX0_property_81 rfl rfl ?_
      refine g_X0_31 rfl dX0_property_82 (St_ho hg o0) ?_
      exact a_iret dX0_property_85 rfl (Nat.le_of_ble_eq_true rfl) (Nat.le_of_ble_eq_true rfl) h
    · replace h := h.2.2.2.2.2.2.2.1 e3
      refine ⟨85, 86, by rw [e3]; rfl, by decide, ?_⟩
      refine a_aload_n (k := 0) dX0_property_86 rfl rfl ?_
      refine g_X0_34 rfl dX0_property_87 (St_ho hg o0) ?_
      exact a_iret dX0_property_90 rfl (Nat.le_of_ble_eq_true rfl) (Nat.le_of_ble_eq_true rfl) h
    · replace h := h.2.2.2.2.2.2.2.2.1 e3
      refine ⟨90, 91, by rw [e3]; rfl, by decide, ?_⟩
      refine a_aload_n (k := 0) dX0_property_91 rfl rfl ?_
      refine g_X0_28 rfl dX0_property_92 (St_ho hg o0) ?_
      exact a_iret dX0_property_95 rfl (Nat.le_of_ble_eq_true rfl) (Nat.le_of_ble_eq_true rfl) h
    · replace h := h.2.2.2.2.2.2.2.2.2 e3
      refine ⟨95, 96, by rw [e3]; rfl, by decide, ?_⟩
      refine a_aload_n (k := 0) dX0_property_96 rfl rfl ?_
      refine a_iload_n (k := 2) dX0_property_97 rfl rfl ?_
      refine k_X0_81 rfl dX0_property_98 (Nat.le_of_ble_eq_true rfl) rfl (Nat.le_of_ble_eq_true rfl) (Nat.le_of_ble_eq_true rfl) (St_ho hg o0) h (fun x10 n11 μ12 h => ?_)
      refine a_if_ne (tgt := 111) dX0_property_101 (by decide) (fun c13 => ?_) (fun c13 => ?_)
      · replace h := h.1 c13
        refine a_bipush dX0_property_111 (by decide) (by decide) ?_
        exact a_iret dX0_property_113 rfl (Nat.le_of_ble_eq_true rfl) (Nat.le_of_ble_eq_true rfl) h
      · replace h := h.2 c13
        refine a_aload_n (k := 0) dX0_property_104 rfl rfl ?_
        refine g_X0_44 rfl dX0_property_105 (St_ho hg o0) ?_
        refine a_goto (tgt := 113) dX0_property_108 (by decide) ?_
        exact a_iret dX0_property_113 rfl (Nat.le_of_ble_eq_true rfl) (Nat.le_of_ble_eq_true rfl) h
  · replace h := h.1 c1
    refine a_iconst dX0_property_114 (by decide) ?_
    exact a_iret dX0_property_115 rfl (Nat.le_of_ble_eq_true rfl) (Nat.le_of_ble_eq_true rfl) h
theorem m_X0_drop {G : GT} (hg : gx G = FX) {n : Nat} {μ : Mem} {Q : Nat → Mem → Prop} {v0 v1 : Int} (o0 : St v0 0 9) (h : (CV G Y_X0_giveUpHopsToCome [.inr v0, .inl v1] n (up μ v0 7 1) (fun (n2 : Nat) (μ3 : Mem) => (Q n2 μ3)))) : CV G Y_X0_drop [.inr v0, .inl v1] n μ Q := by
  refine e_V (by decide) (Nat.le_of_ble_eq_true rfl) ?_
  show Wa G Y_X0_drop (ZV G Y_X0_drop Q) 0 0 n μ 0 [(0, .inr v0), (1, .inl v1)] []
  refine a_aload_n (k := 0) dX0_drop_0 rfl rfl ?_
  refine a_iconst dX0_drop_1 (by decide) ?_
  refine p_X0_40 rfl dX0_drop_2 (St_ho hg o0) (by decide) (FX_put hg o0 rfl) ?_
  refine a_aload_n (k := 0) dX0_drop_5 rfl rfl ?_
  refine a_iload_n (k := 1) dX0_drop_6 rfl rfl ?_
  refine k_X0_88 rfl dX0_drop_7 (Nat.le_of_ble_eq_true rfl) rfl (Nat.le_of_ble_eq_true rfl) (Nat.le_of_ble_eq_true rfl) (St_ho hg o0) h (fun n2 μ3 h => ?_)
  exact a_ret dX0_drop_10 rfl (Nat.le_of_ble_eq_true rfl) (Nat.le_of_ble_eq_true rfl) h
theorem m_X0_giveUpHopsToCome {G : GT} (hg : gx G = FX) {n : Nat} {μ : Mem} {Q : Nat → Mem → Prop} {v0 v1 : Int} (o0 : St v0 0 9) (h : (CI G Y_X0_hopsOnTheirWay [.inr v0, .inl v1] n μ (fun (x1 : Int) (n2 : Nat) (μ3 : Mem) => (CV G Y_X8_cut [.inr (v0 + 1), .inl x1] n2 μ3 (fun (n5 : Nat) (μ6 : Mem) => (Q n5 μ6)))))) : CV G Y_X0_giveUpHopsToCome [.inr v0, .inl v1] n μ Q := by
  refine e_V (by decide) (Nat.le_of_ble_eq_true rfl) ?_
  show Wa G Y_X0_giveUpHopsToCome (ZV G Y_X0_giveUpHopsToCome Q) 0 0 n μ 0 [(0, .inr v0), (1, .inl v1)] []
  refine a_aload_n (k := 0) dX0_giveUpHopsToCome_0 rfl rfl ?_
  refine gs_X0_20 rfl dX0_giveUpHopsToCome_1 hg o0 ?_
  refine a_aload_n (k := 0) dX0_giveUpHopsToCome_4 rfl rfl ?_
  refine a_iload_n (k := 1) dX0_giveUpHopsToCome_5 rfl rfl ?_
  refine k_X0_91 rfl dX0_giveUpHopsToCome_6 (Nat.le_of_ble_eq_true rfl) rfl (Nat.le_of_ble_eq_true rfl) (Nat.le_of_ble_eq_true rfl) (St_ho hg o0) h (fun x1 n2 μ3 h => ?_)
  refine k_X0_47 rfl dX0_giveUpHopsToCome_9 (Nat.le_of_ble_eq_true rfl) rfl (Nat.le_of_ble_eq_true rfl) (Nat.le_of_ble_eq_true rfl) (St_ho hg (st_0_1 o0)) h (fun n5 μ6 h => ?_)
  exact a_ret dX0_giveUpHopsToCome_12 rfl (Nat.le_of_ble_eq_true rfl) (Nat.le_of_ble_eq_true rfl) h
theorem m_X0_hopsOnTheirWay {G : GT} (hg : gx G = FX) {n : Nat} {μ : Mem} {Q : Int → Nat → Mem → Prop} {v0 v1 : Int} (o0 : St v0 0 9) (h : (((μ (v0 + 1) 2) ≤ 0 → (Q 0 n μ)) ∧ (¬ ((μ (v0 + 1) 2) ≤ 0) → (CI G Y_X8_at [.inr (v0 + 1), .inl 0, .inl 1] n μ (fun (x2 : Int) (n3 : Nat) (μ4 : Mem) => ((v1 ≤ x2 → (Q 0 n3 μ4)) ∧ (¬ (v1 ≤ x2) → (Q 1 n3 μ4)))))))) : CI G Y_X0_hopsOnTheirWay [.inr v0, .inl v1] n μ Q := by
  refine e_I (by decide) (Nat.le_of_ble_eq_true rfl) ?_
  show Wa G Y_X0_hopsOnTheirWay (ZI G Y_X0_hopsOnTheirWay Q) 0 0 n μ 0 [(0, .inr v0), (1, .inl v1)] []
  refine a_aload_n (k := 0) dX0_hopsOnTheirWay_0 rfl rfl ?_
  refine gs_X0_20 rfl dX0_hopsOnTheirWay_1 hg o0 ?_
  refine g_X0_63 rfl dX0_hopsOnTheirWay_4 (St_ho hg (st_0_1 o0)) ?_
  refine a_if_le (tgt := 27) dX0_hopsOnTheirWay_7 (by decide) (fun c1 => ?_) (fun c1 => ?_)
  · replace h := h.1 c1
    refine a_iconst dX0_hopsOnTheirWay_27 (by decide) ?_
    exact a_iret dX0_hopsOnTheirWay_28 rfl (Nat.le_of_ble_eq_true rfl) (Nat.le_of_ble_eq_true rfl) h
  · replace h := h.2 c1
    refine a_aload_n (k := 0) dX0_hopsOnTheirWay_10 rfl rfl ?_
    refine gs_X0_20 rfl dX0_hopsOnTheirWay_11 hg o0 ?_
    refine a_iconst dX0_hopsOnTheirWay_14 (by decide) ?_
    refine a_iconst dX0_hopsOnTheirWay_15 (by decide) ?_
    refine k_X0_66 rfl dX0_hopsOnTheirWay_16 (Nat.le_of_ble_eq_true rfl) rfl (Nat.le_of_ble_eq_true rfl) (Nat.le_of_ble_eq_true rfl) (St_ho hg (st_0_1 o0)) h (fun x2 n3 μ4 h => ?_)
    refine a_iload_n (k := 1) dX0_hopsOnTheirWay_19 rfl rfl ?_
    refine a_icmp_ge (tgt := 27) dX0_hopsOnTheirWay_20 (by decide) (fun c5 => ?_) (fun c5 => ?_)
    · replace h := h.1 c5
      refine a_iconst dX0_hopsOnTheirWay_27 (by decide) ?_
      exact a_iret dX0_hopsOnTheirWay_28 rfl (Nat.le_of_ble_eq_true rfl) (Nat.le_of_ble_eq_true rfl) h
    · replace h := h.2 c5
      refine a_iconst dX0_hopsOnTheirWay_23 (by decide) ?_
      refine a_goto (tgt := 28) dX0_hopsOnTheirWay_24 (by decide) ?_
      exact a_iret dX0_hopsOnTheirWay_28 rfl (Nat.le_of_ble_eq_true rfl) (Nat.le_of_ble_eq_true rfl) h
abbrev B_X0_arrive_2 (G : GT) (Q : Nat → Mem → Prop) (n : Nat) (μ : Mem) (v0 : Int) (v1 : Int) (v2 : Int) : Prop := Wa G Y_X0_arrive (ZV G Y_X0_arrive Q) 0 0 n μ 2 [(0, .inr v0), (1, .inl v1), (2, .inl v2)] []
theorem m_X0_arrive {G : GT} (hg : gx G = FX) {n : Nat} {μ : Mem} {Q : Nat → Mem → Prop} {v0 v1 : Int} (o0 : St v0 0 9) (h : (B_X0_arrive_2 G Q n μ v0 v1 0)) : CV G Y_X0_arrive [.inr v0, .inl v1] n μ Q := by
  refine e_V (by decide) (Nat.le_of_ble_eq_true rfl) ?_
  show Wa G Y_X0_arrive (ZV G Y_X0_arrive Q) 0 0 n μ 0 [(0, .inr v0), (1, .inl v1)] []
  refine a_iconst dX0_arrive_0 (by decide) ?_
  refine b_istore_n (L' := [(0, .inr v0), (1, .inl v1), (2, .inl 0)]) [1, 2, 0] dX0_arrive_1 rfl (by decide) rfl ?_
  exact h
theorem b_X0_arrive_2 {G : GT} (hg : gx G = FX) {n : Nat} {μ : Mem} {Q : Nat → Mem → Prop} {v0 v1 v2 : Int} (o0 : St v0 0 9) (h : ((6 ≤ v2 → (Q n μ)) ∧ (¬ (6 ≤ v2) → (((μ (v0 + 1) 2) ≤ 0 → ((inR (v2 + 1)) ∧ (B_X0_arrive_2 G Q n μ v0 v1 (v2 + 1)))) ∧ (¬ ((μ (v0 + 1) 2) ≤ 0) → (CI G Y_X8_at [.inr (v0 + 1), .inl 0, .inl 3] n μ (fun (x4 : Int) (n5 : Nat) (μ6 : Mem) => ((v1 < x4 → ((inR (v2 + 1)) ∧ (B_X0_arrive_2 G Q n5 μ6 v0 v1 (v2 + 1)))) ∧ (¬ (v1 < x4) → (CI G Y_X8_at [.inr (v0 + 1), .inl 0, .inl 0] n5 μ6 (fun (x9 : Int) (n10 : Nat) (μ11 : Mem) => (CR G Y_X3_contactAt [.inr 7, .inl x9] n10 μ11 (fun (x12 : Int) (n13 : Nat) (μ14 : Mem) => ((Co n13 x12) ∧ (CV G Y_X8_removeFirstRow [.inr (v0 + 1)] n13 (up μ14 v0 2 (μ14 x12 1)) (fun (n17 : Nat) (μ18 : Mem) => ((inR (v2 + 1)) ∧ (B_X0_arrive_2 G Q n17 μ18 v0 v1 (v2 + 1))))))))))))))))))) : B_X0_arrive_2 G Q n μ v0 v1 v2 := by
  show Wa G Y_X0_arrive (ZV G Y_X0_arrive Q) 0 0 n μ 2 [(0, .inr v0), (1, .inl v1), (2, .inl v2)] []
  refine a_iload_n (k := 2) dX0_arrive_2 rfl rfl ?_
  refine a_bipush dX0_arrive_3 (by decide) (by decide) ?_
  refine a_icmp_ge (tgt := 67) dX0_arrive_5 (by decide) (fun c1 => ?_) (fun c1 => ?_)
  · replace h := h.1 c1
    exact a_ret dX0_arrive_67 rfl (Nat.le_of_ble_eq_true rfl) (Nat.le_of_ble_eq_true rfl) h
  · replace h := h.2 c1
    refine a_aload_n (k := 0) dX0_arrive_8 rfl rfl ?_
    refine gs_X0_20 rfl dX0_arrive_9 hg o0 ?_
    refine g_X0_63 rfl dX0_arrive_12 (St_ho hg (st_0_1 o0)) ?_
    refine a_if_le (tgt := 61) dX0_arrive_15 (by decide) (fun c2 => ?_) (fun c2 => ?_)
    · replace h := h.1 c2
      obtain ⟨q3, h⟩ := h
      refine b_iinc (L' := [(0, .inr v0), (1, .inl v1), (2, .inl (v2 + 1))]) (k := 2) [1, 2, 0] dX0_arrive_61 rfl q3 (by decide) rfl ?_
      refine a_goto (tgt := 2) dX0_arrive_64 (by decide) ?_
      exact h
    · replace h := h.2 c2
      refine a_aload_n (k := 0) dX0_arrive_18 rfl rfl ?_
      refine gs_X0_20 rfl dX0_arrive_19 hg o0 ?_
      refine a_iconst dX0_arrive_22 (by decide) ?_
      refine a_iconst dX0_arrive_23 (by decide) ?_
      refine k_X0_66 rfl dX0_arrive_24 (Nat.le_of_ble_eq_true rfl) rfl (Nat.le_of_ble_eq_true rfl) (Nat.le_of_ble_eq_true rfl) (St_ho hg (st_0_1 o0)) h (fun x4 n5 μ6 h => ?_)
      refine a_iload_n (k := 1) dX0_arrive_27 rfl rfl ?_
      refine a_icmp_gt (tgt := 61) dX0_arrive_28 (by decide) (fun c7 => ?_) (fun c7 => ?_)
      · replace h := h.1 c7
        obtain ⟨q8, h⟩ := h
        refine b_iinc (L' := [(0, .inr v0), (1, .inl v1), (2, .inl (v2 + 1))]) (k := 2) [1, 2, 0] dX0_arrive_61 rfl q8 (by decide) rfl ?_
        refine a_goto (tgt := 2) dX0_arrive_64 (by decide) ?_
        exact h
      · replace h := h.2 c7
        refine a_aload_n (k := 0) dX0_arrive_31 rfl rfl ?_
        refine a_aload_n (k := 0) dX0_arrive_32 rfl rfl ?_
        refine gs_X0_9 rfl dX0_arrive_33 hg o0 ?_
        refine a_aload_n (k := 0) dX0_arrive_36 rfl rfl ?_
        refine gs_X0_20 rfl dX0_arrive_37 hg o0 ?_
        refine a_iconst dX0_arrive_40 (by decide) ?_
        refine a_iconst dX0_arrive_41 (by decide) ?_
        refine k_X0_66 rfl dX0_arrive_42 (Nat.le_of_ble_eq_true rfl) rfl (Nat.le_of_ble_eq_true rfl) (Nat.le_of_ble_eq_true rfl) (St_ho hg (st_0_1 o0)) h (fun x9 n10 μ11 h => ?_)
        refine k_X0_70 rfl dX0_arrive_45 (Nat.le_of_ble_eq_true rfl) rfl (Nat.le_of_ble_eq_true rfl) (Nat.le_of_ble_eq_true rfl) (St_ho hg St_7) h (fun x12 n13 μ14 _ h => ?_)
        obtain ⟨q15, h⟩ := h
        refine g_X0_76 rfl dX0_arrive_48 (fun _ => q15) ?_
        refine p_X0_24 rfl dX0_arrive_51 (St_ho hg o0) (FX_put hg o0 rfl) ?_
        refine a_aload_n (k := 0) dX0_arrive_54 rfl rfl ?_
        refine gs_X0_20 rfl dX0_arrive_55 hg o0 ?_
        refine k_X0_94 rfl dX0_arrive_58 (Nat.le_of_ble_eq_true rfl) rfl (Nat.le_of_ble_eq_true rfl) (Nat.le_of_ble_eq_true rfl) (St_ho hg (st_0_1 o0)) h (fun n17 μ18 h => ?_)
        obtain ⟨q19, h⟩ := h
        refine b_iinc (L' := [(0, .inr v0), (1, .inl v1), (2, .inl (v2 + 1))]) (k := 2) [1, 2, 0] dX0_arrive_61 rfl q19 (by decide) rfl ?_
        refine a_goto (tgt := 2) dX0_arrive_64 (by decide) ?_
        exact h
abbrev B_X0_loses_2 (G : GT) (Q : Int → Nat → Mem → Prop) (n : Nat) (μ : Mem) (v0 : Int) (v1 : Int) (v2 : Int) (v3 : Int) : Prop := Wa G Y_X0_loses (ZI G Y_X0_loses Q) 0 0 n μ 2 [(0, .inr v0), (1, .inl v1), (2, .inl v2), (3, .inl v3)] []
abbrev B_X0_loses_56 (G : GT) (Q : Int → Nat → Mem → Prop) (n : Nat) (μ : Mem) (u0 : Int) (u1 : Int) : Prop := Wa G Y_X0_loses (ZI G Y_X0_loses Q) 0 0 n μ 56 [] [.inl u0, .inr u1]
theorem m_X0_loses {G : GT} (hg : gx G = FX) {n : Nat} {μ : Mem} {Q : Int → Nat → Mem → Prop} {v0 v1 v2 : Int} (o0 : St v0 0 9) (h : (B_X0_loses_2 G Q n μ v0 v1 v2 0)) : CI G Y_X0_loses [.inr v0, .inl v1, .inl v2] n μ Q := by
  refine e_I (by decide) (Nat.le_of_ble_eq_true rfl) ?_
  show Wa G Y_X0_loses (ZI G Y_X0_loses Q) 0 0 n μ 0 [(0, .inr v0), (1, .inl v1), (2, .inl v2)] []
  refine a_iconst dX0_loses_0 (by decide) ?_
  refine b_istore_n (L' := [(0, .inr v0), (1, .inl v1), (2, .inl v2), (3, .inl 0)]) [1, 2, 3, 0] dX0_loses_1 rfl (by decide) rfl ?_
  exact h
theorem b_X0_loses_2 {G : GT} (hg : gx G = FX) {n : Nat} {μ : Mem} {Q : Int → Nat → Mem → Prop} {v0 v1 v2 v3 : Int} (o0 : St v0 0 9) (h : (((μ (v0 + 1) 2) ≤ v3 → (Q 0 n μ)) ∧ (¬ ((μ (v0 + 1) 2) ≤ v3) → (CI G Y_X8_at [.inr (v0 + 1), .inl v3, .inl 0] n μ (fun (x2 : Int) (n3 : Nat) (μ4 : Mem) => ((¬ (x2 = v1) → ((inR (v3 + 1)) ∧ (B_X0_loses_2 G Q n3 μ4 v0 v1 v2 (v3 + 1)))) ∧ (x2 = v1 → (CI G Y_X8_at [.inr (v0 + 1), .inl v3, .inl 2] n3 μ4 (fun (x7 : Int) (n8 : Nat) (μ9 : Mem) => ((x7 ≤ v2 → ((inR (v3 + 1)) ∧ (B_X0_loses_2 G Q n8 μ9 v0 v1 v2 (v3 + 1)))) ∧ (¬ (x7 ≤ v2) → ((¬ (v3 = 0) → (CI G Y_X0_hopsOnTheirWay [.inr v0, .inl v2] n8 μ9 (fun (x13 : Int) (n14 : Nat) (μ15 : Mem) => (B_X0_loses_56 G Q n14 μ15 x13 (v0 + 1))))) ∧ (v3 = 0 → (B_X0_loses_56 G Q n8 μ9 0 (v0 + 1))))))))))))))) : B_X0_loses_2 G Q n μ v0 v1 v2 v3 := by
  show Wa G Y_X0_loses (ZI G Y_X0_loses Q) 0 0 n μ 2 [(0, .inr v0), (1, .inl v1), (2, .inl v2), (3, .inl v3)] []
  refine a_iload_n (k := 3) dX0_loses_2 rfl rfl ?_
  refine a_aload_n (k := 0) dX0_loses_3 rfl rfl ?_
  refine gs_X0_20 rfl dX0_loses_4 hg o0 ?_
  refine g_X0_63 rfl dX0_loses_7 (St_ho hg (st_0_1 o0)) ?_
  refine a_icmp_ge (tgt := 67) dX0_loses_10 (by decide) (fun c1 => ?_) (fun c1 => ?_)
  · replace h := h.1 c1
    refine a_iconst dX0_loses_67 (by decide) ?_
    exact a_zret dX0_loses_68 rfl (Nat.le_of_ble_eq_true rfl) (Nat.le_of_ble_eq_true rfl) (by decide) h
  · replace h := h.2 c1
    refine a_aload_n (k := 0) dX0_loses_13 rfl rfl ?_
    refine gs_X0_20 rfl dX0_loses_14 hg o0 ?_
    refine a_iload_n (k := 3) dX0_loses_17 rfl rfl ?_
    refine a_iconst dX0_loses_18 (by decide) ?_
    refine k_X0_66 rfl dX0_loses_19 (Nat.le_of_ble_eq_true rfl) rfl (Nat.le_of_ble_eq_true rfl) (Nat.le_of_ble_eq_true rfl) (St_ho hg (st_0_1 o0)) h (fun x2 n3 μ4 h => ?_)
    refine a_iload_n (k := 1) dX0_loses_22 rfl rfl ?_
    refine a_icmp_ne (tgt := 61) dX0_loses_23 (by decide) (fun c5 => ?_) (fun c5 => ?_)
    · replace h := h.1 c5
      obtain ⟨q6, h⟩ := h
      refine b_iinc (L' := [(0, .inr v0), (1, .inl v1), (2, .inl v2), (3, .inl (v3 + 1))]) (k := 3) [1, 2, 3, 0] dX0_loses_61 rfl q6 (by decide) rfl ?_
      refine a_goto (tgt := 2) dX0_loses_64 (by decide) ?_
      exact h
    · replace h := h.2 c5
      refine a_aload_n (k := 0) dX0_loses_26 rfl rfl ?_
      refine gs_X0_20 rfl dX0_loses_27 hg o0 ?_
      refine a_iload_n (k := 3) dX0_loses_30 rfl rfl ?_
      refine a_iconst dX0_loses_31 (by decide) ?_
      refine k_X0_66 rfl dX0_loses_32 (Nat.le_of_ble_eq_true rfl) rfl (Nat.le_of_ble_eq_true rfl) (Nat.le_of_ble_eq_true rfl) (St_ho hg (st_0_1 o0)) h (fun x7 n8 μ9 h => ?_)
      refine a_iload_n (k := 2) dX0_loses_35 rfl rfl ?_
      refine a_icmp_le (tgt := 61) dX0_loses_36 (by decide) (fun c10 => ?_) (fun c10 => ?_)
      · replace h := h.1 c10
        obtain ⟨q11, h⟩ := h
        refine b_iinc (L' := [(0, .inr v0), (1, .inl v1), (2, .inl v2), (3, .inl (v3 + 1))]) (k := 3) [1, 2, 3, 0] dX0_loses_61 rfl q11 (by decide) rfl ?_
        refine a_goto (tgt := 2) dX0_loses_64 (by decide) ?_
        exact h
      · replace h := h.2 c10
        refine a_aload_n (k := 0) dX0_loses_39 rfl rfl ?_
        refine gs_X0_20 rfl dX0_loses_40 hg o0 ?_
        refine a_iload_n (k := 3) dX0_loses_43 rfl rfl ?_
        refine a_if_ne (tgt := 51) dX0_loses_44 (by decide) (fun c12 => ?_) (fun c12 => ?_)
        · replace h := h.1 c12
          refine a_aload_n (k := 0) dX0_loses_51 rfl rfl ?_
          refine a_iload_n (k := 2) dX0_loses_52 rfl rfl ?_
          refine k_X0_91 rfl dX0_loses_53 (Nat.le_of_ble_eq_true rfl) rfl (Nat.le_of_ble_eq_true rfl) (Nat.le_of_ble_eq_true rfl) (St_ho hg o0) h (fun x13 n14 μ15 h => ?_)
          refine a_sub [] rfl ?_
          exact h
        · replace h := h.2 c12
          refine a_iconst dX0_loses_47 (by decide) ?_
          refine a_goto (tgt := 56) dX0_loses_48 (by decide) ?_
          refine a_sub [] rfl ?_
          exact h
theorem b_X0_loses_56 {G : GT} (hg : gx G = FX) {n : Nat} {μ : Mem} {Q : Int → Nat → Mem → Prop} {u0 u1 : Int} (ou1 : St u1 8 3) (h : (CV G Y_X8_cut [.inr u1, .inl u0] n μ (fun (n2 : Nat) (μ3 : Mem) => (Q 1 n2 μ3)))) : B_X0_loses_56 G Q n μ u0 u1 := by
  show Wa G Y_X0_loses (ZI G Y_X0_loses Q) 0 0 n μ 56 [] [.inl u0, .inr u1]
  refine k_X0_47 rfl dX0_loses_56 (Nat.le_of_ble_eq_true rfl) rfl (Nat.le_of_ble_eq_true rfl) (Nat.le_of_ble_eq_true rfl) (St_ho hg ou1) h (fun n2 μ3 h => ?_)
  refine a_iconst dX0_loses_59 (by decide) ?_
  exact a_zret dX0_loses_60 rfl (Nat.le_of_ble_eq_true rfl) (Nat.le_of_ble_eq_true rfl) (by decide) h
abbrev B_X0_takes_2 (G : GT) (Q : Int → Nat → Mem → Prop) (n : Nat) (μ : Mem) (v0 : Int) (v1 : Int) (v2 : Int) (v3 : Int) : Prop := Wa G Y_X0_takes (ZI G Y_X0_takes Q) 0 0 n μ 2 [(0, .inr v0), (1, .inl v1), (2, .inl v2), (3, .inl v3)] []
theorem m_X0_takes {G : GT} (hg : gx G = FX) {n : Nat} {μ : Mem} {Q : Int → Nat → Mem → Prop} {v0 v1 v2 : Int} (o0 : St v0 0 9) (h : (B_X0_takes_2 G Q n μ v0 v1 v2 0)) : CI G Y_X0_takes [.inr v0, .inl v1, .inl v2] n μ Q := by
  refine e_I (by decide) (Nat.le_of_ble_eq_true rfl) ?_
  show Wa G Y_X0_takes (ZI G Y_X0_takes Q) 0 0 n μ 0 [(0, .inr v0), (1, .inl v1), (2, .inl v2)] []
  refine a_iconst dX0_takes_0 (by decide) ?_
  refine b_istore_n (L' := [(0, .inr v0), (1, .inl v1), (2, .inl v2), (3, .inl 0)]) [1, 2, 3, 0] dX0_takes_1 rfl (by decide) rfl ?_
  exact h
theorem b_X0_takes_2 {G : GT} (hg : gx G = FX) {n : Nat} {μ : Mem} {Q : Int → Nat → Mem → Prop} {v0 v1 v2 v3 : Int} (o0 : St v0 0 9) (h : (((μ (v0 + 1) 2) ≤ v3 → (Q 0 n μ)) ∧ (¬ ((μ (v0 + 1) 2) ≤ v3) → (CI G Y_X8_at [.inr (v0 + 1), .inl v3, .inl 0] n μ (fun (x2 : Int) (n3 : Nat) (μ4 : Mem) => ((¬ (x2 = v1) → ((inR (v3 + 1)) ∧ (B_X0_takes_2 G Q n3 μ4 v0 v1 v2 (v3 + 1)))) ∧ (x2 = v1 → (CI G Y_X8_at [.inr (v0 + 1), .inl v3, .inl 1] n3 μ4 (fun (x7 : Int) (n8 : Nat) (μ9 : Mem) => ((v2 < x7 → ((inR (v3 + 1)) ∧ (B_X0_takes_2 G Q n8 μ9 v0 v1 v2 (v3 + 1)))) ∧ (¬ (v2 < x7) → (CI G Y_X8_at [.inr (v0 + 1), .inl v3, .inl 2] n8 μ9 (fun (x12 : Int) (n13 : Nat) (μ14 : Mem) => ((x12 ≤ v2 → ((inR (v3 + 1)) ∧ (B_X0_takes_2 G Q n13 μ14 v0 v1 v2 (v3 + 1)))) ∧ (¬ (x12 ≤ v2) → (Q 1 n13 μ14)))))))))))))))) : B_X0_takes_2 G Q n μ v0 v1 v2 v3 := by
  show Wa G Y_X0_takes (ZI G Y_X0_takes Q) 0 0 n μ 2 [(0, .inr v0), (1, .inl v1), (2, .inl v2), (3, .inl v3)] []
  refine a_iload_n (k := 3) dX0_takes_2 rfl rfl ?_
  refine a_aload_n (k := 0) dX0_takes_3 rfl rfl ?_
  refine gs_X0_20 rfl dX0_takes_4 hg o0 ?_
  refine g_X0_63 rfl dX0_takes_7 (St_ho hg (st_0_1 o0)) ?_
  refine a_icmp_ge (tgt := 60) dX0_takes_10 (by decide) (fun c1 => ?_) (fun c1 => ?_)
  · replace h := h.1 c1
    refine a_iconst dX0_takes_60 (by decide) ?_
    exact a_zret dX0_takes_61 rfl (Nat.le_of_ble_eq_true rfl) (Nat.le_of_ble_eq_true rfl) (by decide) h
  · replace h := h.2 c1
    refine a_aload_n (k := 0) dX0_takes_13 rfl rfl ?_
    refine gs_X0_20 rfl dX0_takes_14 hg o0 ?_
    refine a_iload_n (k := 3) dX0_takes_17 rfl rfl ?_
    refine a_iconst dX0_takes_18 (by decide) ?_
    refine k_X0_66 rfl dX0_takes_19 (Nat.le_of_ble_eq_true rfl) rfl (Nat.le_of_ble_eq_true rfl) (Nat.le_of_ble_eq_true rfl) (St_ho hg (st_0_1 o0)) h (fun x2 n3 μ4 h => ?_)
    refine a_iload_n (k := 1) dX0_takes_22 rfl rfl ?_
    refine a_icmp_ne (tgt := 54) dX0_takes_23 (by decide) (fun c5 => ?_) (fun c5 => ?_)
    · replace h := h.1 c5
      obtain ⟨q6, h⟩ := h
      refine b_iinc (L' := [(0, .inr v0), (1, .inl v1), (2, .inl v2), (3, .inl (v3 + 1))]) (k := 3) [1, 2, 3, 0] dX0_takes_54 rfl q6 (by decide) rfl ?_
      refine a_goto (tgt := 2) dX0_takes_57 (by decide) ?_
      exact h
    · replace h := h.2 c5
      refine a_aload_n (k := 0) dX0_takes_26 rfl rfl ?_
      refine gs_X0_20 rfl dX0_takes_27 hg o0 ?_
      refine a_iload_n (k := 3) dX0_takes_30 rfl rfl ?_
      refine a_iconst dX0_takes_31 (by decide) ?_
      refine k_X0_66 rfl dX0_takes_32 (Nat.le_of_ble_eq_true rfl) rfl (Nat.le_of_ble_eq_true rfl) (Nat.le_of_ble_eq_true rfl) (St_ho hg (st_0_1 o0)) h (fun x7 n8 μ9 h => ?_)
      refine a_iload_n (k := 2) dX0_takes_35 rfl rfl ?_
      refine a_icmp_gt (tgt := 54) dX0_takes_36 (by decide) (fun c10 => ?_) (fun c10 => ?_)
      · replace h := h.1 c10
        obtain ⟨q11, h⟩ := h
        refine b_iinc (L' := [(0, .inr v0), (1, .inl v1), (2, .inl v2), (3, .inl (v3 + 1))]) (k := 3) [1, 2, 3, 0] dX0_takes_54 rfl q11 (by decide) rfl ?_
        refine a_goto (tgt := 2) dX0_takes_57 (by decide) ?_
        exact h
      · replace h := h.2 c10
        refine a_iload_n (k := 2) dX0_takes_39 rfl rfl ?_
        refine a_aload_n (k := 0) dX0_takes_40 rfl rfl ?_
        refine gs_X0_20 rfl dX0_takes_41 hg o0 ?_
        refine a_iload_n (k := 3) dX0_takes_44 rfl rfl ?_
        refine a_iconst dX0_takes_45 (by decide) ?_
        refine k_X0_66 rfl dX0_takes_46 (Nat.le_of_ble_eq_true rfl) rfl (Nat.le_of_ble_eq_true rfl) (Nat.le_of_ble_eq_true rfl) (St_ho hg (st_0_1 o0)) h (fun x12 n13 μ14 h => ?_)
        refine a_icmp_ge (tgt := 54) dX0_takes_49 (by decide) (fun c15 => ?_) (fun c15 => ?_)
        · replace h := h.1 c15
          obtain ⟨q16, h⟩ := h
          refine b_iinc (L' := [(0, .inr v0), (1, .inl v1), (2, .inl v2), (3, .inl (v3 + 1))]) (k := 3) [1, 2, 3, 0] dX0_takes_54 rfl q16 (by decide) rfl ?_
          refine a_goto (tgt := 2) dX0_takes_57 (by decide) ?_
          exact h
        · replace h := h.2 c15
          refine a_iconst dX0_takes_52 (by decide) ?_
          exact a_zret dX0_takes_53 rfl (Nat.le_of_ble_eq_true rfl) (Nat.le_of_ble_eq_true rfl) (by decide) h
abbrev B_X0_standsInTheWayOf_6 (G : GT) (Q : Int → Nat → Mem → Prop) (n : Nat) (μ : Mem) (v0 : Int) (v1 : Int) (v3 : Int) : Prop := Wa G Y_X0_standsInTheWayOf (ZI G Y_X0_standsInTheWayOf Q) 0 0 n μ 6 [(0, .inr v0), (1, .inr v1), (3, .inl v3)] []
abbrev B_X0_standsInTheWayOf_20 (G : GT) (Q : Int → Nat → Mem → Prop) (n : Nat) (μ : Mem) (v0 : Int) (v1 : Int) (v3 : Int) (v4 : Int) : Prop := Wa G Y_X0_standsInTheWayOf (ZI G Y_X0_standsInTheWayOf Q) 0 0 n μ 20 [(0, .inr v0), (1, .inr v1), (3, .inl v3), (4, .inl v4)] []
theorem m_X0_standsInTheWayOf {G : GT} (hg : gx G = FX) {n : Nat} {μ : Mem} {Q : Int → Nat → Mem → Prop} {v0 v1 v2 : Int} (o0 : St v0 0 9) (o1 : St v1 0 9) (h : (CI G Y_X0_hopsOnTheirWay [.inr v0, .inl v2] n μ (fun (x1 : Int) (n2 : Nat) (μ3 : Mem) => (B_X0_standsInTheWayOf_6 G Q n2 μ3 v0 v1 x1)))) : CI G Y_X0_standsInTheWayOf [.inr v0, .inr v1, .inl v2] n μ Q := by
  refine e_I (by decide) (Nat.le_of_ble_eq_true rfl) ?_
  show Wa G Y_X0_standsInTheWayOf (ZI G Y_X0_standsInTheWayOf Q) 0 0 n μ 0 [(0, .inr v0), (1, .inr v1), (2, .inl v2)] []
  refine a_aload_n (k := 0) dX0_standsInTheWayOf_0 rfl rfl ?_
  refine a_iload_n (k := 2) dX0_standsInTheWayOf_1 rfl rfl ?_
  refine k_X0_91 rfl dX0_standsInTheWayOf_2 (Nat.le_of_ble_eq_true rfl) rfl (Nat.le_of_ble_eq_true rfl) (Nat.le_of_ble_eq_true rfl) (St_ho hg o0) h (fun x1 n2 μ3 h => ?_)
  refine b_istore_n (L' := [(0, .inr v0), (1, .inr v1), (2, .inl v2), (3, .inl x1)]) [1, 2, 3, 0] dX0_standsInTheWayOf_5 rfl (by decide) rfl ?_
  refine a_sub [0, 1, 3] rfl ?_
  exact h
theorem b_X0_standsInTheWayOf_6 {G : GT} (hg : gx G = FX) {n : Nat} {μ : Mem} {Q : Int → Nat → Mem → Prop} {v0 v1 v3 : Int} (o0 : St v0 0 9) (o1 : St v1 0 9) (h : (((μ (v0 + 1) 2) ≤ v3 → (Q 0 n μ)) ∧ (¬ ((μ (v0 + 1) 2) ≤ v3) → (B_X0_standsInTheWayOf_20 G Q n μ v0 v1 v3 0)))) : B_X0_standsInTheWayOf_6 G Q n μ v0 v1 v3 := by
  show Wa G Y_X0_standsInTheWayOf (ZI G Y_X0_standsInTheWayOf Q) 0 0 n μ 6 [(0, .inr v0), (1, .inr v1), (3, .inl v3)] []
  refine a_iload_n (k := 2) dX0_standsInTheWayOf_6 rfl rfl ?_
  refine a_aload_n (k := 0) dX0_standsInTheWayOf_7 rfl rfl ?_
  refine gs_X0_20 rfl dX0_standsInTheWayOf_8 hg o0 ?_
  refine g_X0_63 rfl dX0_standsInTheWayOf_11 (St_ho hg (st_0_1 o0)) ?_
  refine a_icmp_ge (tgt := 112) dX0_standsInTheWayOf_14 (by decide) (fun c1 => ?_) (fun c1 => ?_)
  · replace h := h.1 c1
    refine a_iconst dX0_standsInTheWayOf_112 (by decide) ?_
    exact a_zret dX0_standsInTheWayOf_113 rfl (Nat.le_of_ble_eq_true rfl) (Nat.le_of_ble_eq_true rfl) (by decide) h
  · replace h := h.2 c1
    refine a_iconst dX0_standsInTheWayOf_17 (by decide) ?_
    refine b_istore (L' := [(0, .inr v0), (1, .inr v1), (3, .inl v3), (4, .inl 0)]) [1, 2, 3, 0] dX0_standsInTheWayOf_18 (by decide) rfl ?_
    exact h
theorem b_X0_standsInTheWayOf_20 {G : GT} (hg : gx G = FX) {n : Nat} {μ : Mem} {Q : Int → Nat → Mem → Prop} {v0 v1 v3 v4 : Int} (o0 : St v0 0 9) (o1 : St v1 0 9) (h : (((μ (v1 + 1) 2) ≤ v4 → ((inR (v3 + 1)) ∧ (B_X0_standsInTheWayOf_6 G Q n μ v0 v1 (v3 + 1)))) ∧ (¬ ((μ (v1 + 1) 2) ≤ v4) → (CI G Y_X8_at [.inr (v0 + 1), .inl v3, .inl 0] n μ (fun (x3 : Int) (n4 : Nat) (μ5 : Mem) => (CI G Y_X8_at [.inr (v1 + 1), .inl v4, .inl 0] n4 μ5 (fun (x6 : Int) (n7 : Nat) (μ8 : Mem) => ((¬ (x3 = x6) → ((inR (v4 + 1)) ∧ (B_X0_standsInTheWayOf_20 G Q n7 μ8 v0 v1 v3 (v4 + 1)))) ∧ (x3 = x6 → (CI G Y_X8_at [.inr (v0 + 1), .inl v3, .inl 1] n7 μ8 (fun (x11 : Int) (n12 : Nat) (μ13 : Mem) => (CI G Y_X8_at [.inr (v1 + 1), .inl v4, .inl 2] n12 μ13 (fun (x14 : Int) (n15 : Nat) (μ16 : Mem) => ((x14 ≤ x11 → ((inR (v4 + 1)) ∧ (B_X0_standsInTheWayOf_20 G Q n15 μ16 v0 v1 v3 (v4 + 1)))) ∧ (¬ (x14 ≤ x11) → (CI G Y_X8_at [.inr (v1 + 1), .inl v4, .inl 1] n15 μ16 (fun (x19 : Int) (n20 : Nat) (μ21 : Mem) => (CI G Y_X8_at [.inr (v0 + 1), .inl v3, .inl 2] n20 μ21 (fun (x22 : Int) (n23 : Nat) (μ24 : Mem) => ((x22 ≤ x19 → ((inR (v4 + 1)) ∧ (B_X0_standsInTheWayOf_20 G Q n23 μ24 v0 v1 v3 (v4 + 1)))) ∧ (¬ (x22 ≤ x19) → (Q 1 n23 μ24)))))))))))))))))))))) : B_X0_standsInTheWayOf_20 G Q n μ v0 v1 v3 v4 := by
  show Wa G Y_X0_standsInTheWayOf (ZI G Y_X0_standsInTheWayOf Q) 0 0 n μ 20 [(0, .inr v0), (1, .inr v1), (3, .inl v3), (4, .inl v4)] []
  refine a_iload (k := 3) dX0_standsInTheWayOf_20 rfl ?_
  refine a_aload_n (k := 1) dX0_standsInTheWayOf_22 rfl rfl ?_
  refine gs_X0_20 rfl dX0_standsInTheWayOf_23 hg o1 ?_
  refine g_X0_63 rfl dX0_standsInTheWayOf_26 (St_ho hg (st_0_1 o1)) ?_
  refine a_icmp_ge (tgt := 106) dX0_standsInTheWayOf_29 (by decide) (fun c1 => ?_) (fun c1 => ?_)
  · replace h := h.1 c1
    obtain ⟨q2, h⟩ := h
    refine b_iinc (L' := [(0, .inr v0), (1, .inr v1), (3, .inl (v3 + 1)), (4, .inl v4)]) (k := 2) [1, 2, 0, 3] dX0_standsInTheWayOf_106 rfl q2 (by decide) rfl ?_
    refine a_goto (tgt := 6) dX0_standsInTheWayOf_109 (by decide) ?_
    refine a_sub [0, 1, 2] rfl ?_
    exact h
  · replace h := h.2 c1
    refine a_aload_n (k := 0) dX0_standsInTheWayOf_32 rfl rfl ?_
    refine gs_X0_20 rfl dX0_standsInTheWayOf_33 hg o0 ?_
    refine a_iload_n (k := 2) dX0_standsInTheWayOf_36 rfl rfl ?_
    refine a_iconst dX0_standsInTheWayOf_37 (by decide) ?_
    refine k_X0_66 rfl dX0_standsInTheWayOf_38 (Nat.le_of_ble_eq_true rfl) rfl (Nat.le_of_ble_eq_true rfl) (Nat.le_of_ble_eq_true rfl) (St_ho hg (st_0_1 o0)) h (fun x3 n4 μ5 h => ?_)
    refine a_aload_n (k := 1) dX0_standsInTheWayOf_41 rfl rfl ?_
    refine gs_X0_20 rfl dX0_standsInTheWayOf_42 hg o1 ?_
    refine a_iload (k := 3) dX0_standsInTheWayOf_45 rfl ?_
    refine a_iconst dX0_standsInTheWayOf_47 (by decide) ?_
    refine k_X0_66 rfl dX0_standsInTheWayOf_48 (Nat.le_of_ble_eq_true rfl) rfl (Nat.le_of_ble_eq_true rfl) (Nat.le_of_ble_eq_true rfl) (St_ho hg (st_0_1 o1)) h (fun x6 n7 μ8 h => ?_)
    refine a_icmp_ne (tgt := 100) dX0_standsInTheWayOf_51 (by decide) (fun c9 => ?_) (fun c9 => ?_)
    · replace h := h.1 c9
      obtain ⟨q10, h⟩ := h
      refine b_iinc (L' := [(0, .inr v0), (1, .inr v1), (3, .inl v3), (4, .inl (v4 + 1))]) (k := 3) [1, 2, 3, 0] dX0_standsInTheWayOf_100 rfl q10 (by decide) rfl ?_
      refine a_goto (tgt := 20) dX0_standsInTheWayOf_103 (by decide) ?_
      exact h
    · replace h := h.2 c9
      refine a_aload_n (k := 0) dX0_standsInTheWayOf_54 rfl rfl ?_
      refine gs_X0_20 rfl dX0_standsInTheWayOf_55 hg o0 ?_
      refine a_iload_n (k := 2) dX0_standsInTheWayOf_58 rfl rfl ?_
      refine a_iconst dX0_standsInTheWayOf_59 (by decide) ?_
      refine k_X0_66 rfl dX0_standsInTheWayOf_60 (Nat.le_of_ble_eq_true rfl) rfl (Nat.le_of_ble_eq_true rfl) (Nat.le_of_ble_eq_true rfl) (St_ho hg (st_0_1 o0)) h (fun x11 n12 μ13 h => ?_)
      refine a_aload_n (k := 1) dX0_standsInTheWayOf_63 rfl rfl ?_
      refine gs_X0_20 rfl dX0_standsInTheWayOf_64 hg o1 ?_
      refine a_iload (k := 3) dX0_standsInTheWayOf_67 rfl ?_
      refine a_iconst dX0_standsInTheWayOf_69 (by decide) ?_
      refine k_X0_66 rfl dX0_standsInTheWayOf_70 (Nat.le_of_ble_eq_true rfl) rfl (Nat.le_of_ble_eq_true rfl) (Nat.le_of_ble_eq_true rfl) (St_ho hg (st_0_1 o1)) h (fun x14 n15 μ16 h => ?_)
      refine a_icmp_ge (tgt := 100) dX0_standsInTheWayOf_73 (by decide) (fun c17 => ?_) (fun c17 => ?_)
      · replace h := h.1 c17
        obtain ⟨q18, h⟩ := h
        refine b_iinc (L' := [(0, .inr v0), (1, .inr v1), (3, .inl v3), (4, .inl (v4 + 1))]) (k := 3) [1, 2, 3, 0] dX0_standsInTheWayOf_100 rfl q18 (by decide) rfl ?_
        refine a_goto (tgt := 20) dX0_standsInTheWayOf_103 (by decide) ?_
        exact h
      · replace h := h.2 c17
        refine a_aload_n (k := 1) dX0_standsInTheWayOf_76 rfl rfl ?_
        refine gs_X0_20 rfl dX0_standsInTheWayOf_77 hg o1 ?_
        refine a_iload (k := 3) dX0_standsInTheWayOf_80 rfl ?_
        refine a_iconst dX0_standsInTheWayOf_82 (by decide) ?_
        refine k_X0_66 rfl dX0_standsInTheWayOf_83 (Nat.le_of_ble_eq_true rfl) rfl (Nat.le_of_ble_eq_true rfl) (Nat.le_of_ble_eq_true rfl) (St_ho hg (st_0_1 o1)) h (fun x19 n20 μ21 h => ?_)
        refine a_aload_n (k := 0) dX0_standsInTheWayOf_86 rfl rfl ?_
        refine gs_X0_20 rfl dX0_standsInTheWayOf_87 hg o0 ?_
        refine a_iload_n (k := 2) dX0_standsInTheWayOf_90 rfl rfl ?_
        refine a_iconst dX0_standsInTheWayOf_91 (by decide) ?_
        refine k_X0_66 rfl dX0_standsInTheWayOf_92 (Nat.le_of_ble_eq_true rfl) rfl (Nat.le_of_ble_eq_true rfl) (Nat.le_of_ble_eq_true rfl) (St_ho hg (st_0_1 o0)) h (fun x22 n23 μ24 h => ?_)
        refine a_icmp_ge (tgt := 100) dX0_standsInTheWayOf_95 (by decide) (fun c25 => ?_) (fun c25 => ?_)
        · replace h := h.1 c25
          obtain ⟨q26, h⟩ := h
          refine b_iinc (L' := [(0, .inr v0), (1, .inr v1), (3, .inl v3), (4, .inl (v4 + 1))]) (k := 3) [1, 2, 3, 0] dX0_standsInTheWayOf_100 rfl q26 (by decide) rfl ?_
          refine a_goto (tgt := 20) dX0_standsInTheWayOf_103 (by decide) ?_
          exact h
        · replace h := h.2 c25
          refine a_iconst dX0_standsInTheWayOf_98 (by decide) ?_
          exact a_zret dX0_standsInTheWayOf_99 rfl (Nat.le_of_ble_eq_true rfl) (Nat.le_of_ble_eq_true rfl) (by decide) h
theorem m_X7_reset {G : GT} (hg : gx G = FX) {n : Nat} {μ : Mem} {Q : Nat → Mem → Prop} {v0 : Int} (o0 : St v0 7 5) (h : (Q n (up (up (up μ v0 2 0) v0 3 0) v0 4 0))) : CV G Y_X7_reset [.inr v0] n μ Q := by
  refine e_V (by decide) (Nat.le_of_ble_eq_true rfl) ?_
  show Wa G Y_X7_reset (ZV G Y_X7_reset Q) 0 0 n μ 0 [(0, .inr v0)] []
  refine a_aload_n (k := 0) dX7_reset_0 rfl rfl ?_
  refine a_iconst dX7_reset_1 (by decide) ?_
  refine p_X7_24 rfl dX7_reset_2 (St_ho hg o0) (FX_put hg o0 rfl) ?_
  refine a_aload_n (k := 0) dX7_reset_5 rfl rfl ?_
  refine a_iconst dX7_reset_6 (by decide) ?_
  refine p_X7_28 rfl dX7_reset_7 (St_ho hg o0) (FX_put hg o0 rfl) ?_
  refine a_aload_n (k := 0) dX7_reset_10 rfl rfl ?_
  refine a_iconst dX7_reset_11 (by decide) ?_
  refine p_X7_31 rfl dX7_reset_12 (St_ho hg o0) (FX_put hg o0 rfl) ?_
  exact a_ret dX7_reset_15 rfl (Nat.le_of_ble_eq_true rfl) (Nat.le_of_ble_eq_true rfl) h
abbrev B_X7_copyFrom_26 (G : GT) (Q : Nat → Mem → Prop) (n : Nat) (μ : Mem) (v0 : Int) (v1 : Int) (v2 : Int) : Prop := Wa G Y_X7_copyFrom (ZV G Y_X7_copyFrom Q) 0 0 n μ 26 [(0, .inr v0), (1, .inr v1), (2, .inl v2)] []
theorem m_X7_copyFrom {G : GT} (hg : gx G = FX) {n : Nat} {μ : Mem} {Q : Nat → Mem → Prop} {v0 v1 : Int} (o0 : St v0 7 5) (o1 : St v1 7 5) (h : (B_X7_copyFrom_26 G Q n (up (up (up μ v0 2 (μ v1 2)) v0 3 ((up μ v0 2 (μ v1 2)) v1 3)) v0 4 ((up (up μ v0 2 (μ v1 2)) v0 3 ((up μ v0 2 (μ v1 2)) v1 3)) v1 4)) v0 v1 0)) : CV G Y_X7_copyFrom [.inr v0, .inr v1] n μ Q := by
  refine e_V (by decide) (Nat.le_of_ble_eq_true rfl) ?_
  show Wa G Y_X7_copyFrom (ZV G Y_X7_copyFrom Q) 0 0 n μ 0 [(0, .inr v0), (1, .inr v1)] []
  refine a_aload_n (k := 0) dX7_copyFrom_0 rfl rfl ?_
  refine a_aload_n (k := 1) dX7_copyFrom_1 rfl rfl ?_
  refine g_X7_24 rfl dX7_copyFrom_2 (St_ho hg o1) ?_
  refine p_X7_24 rfl dX7_copyFrom_5 (St_ho hg o0) (FX_put hg o0 rfl) ?_
  refine a_aload_n (k := 0) dX7_copyFrom_8 rfl rfl ?_
  refine a_aload_n (k := 1) dX7_copyFrom_9 rfl rfl ?_
  refine g_X7_28 rfl dX7_copyFrom_10 (St_ho hg o1) ?_
  refine p_X7_28 rfl dX7_copyFrom_13 (St_ho hg o0) (FX_put hg o0 rfl) ?_
  refine a_aload_n (k := 0) dX7_copyFrom_16 rfl rfl ?_
  refine a_aload_n (k := 1) dX7_copyFrom_17 rfl rfl ?_
  refine g_X7_31 rfl dX7_copyFrom_18 (St_ho hg o1) ?_
  refine p_X7_31 rfl dX7_copyFrom_21 (St_ho hg o0) (FX_put hg o0 rfl) ?_
  refine a_iconst dX7_copyFrom_24 (by decide) ?_
  refine b_istore_n (L' := [(0, .inr v0), (1, .inr v1), (2, .inl 0)]) [1, 2, 0] dX7_copyFrom_25 rfl (by decide) rfl ?_
  exact h
theorem b_X7_copyFrom_26 {G : GT} (hg : gx G = FX) {n : Nat} {μ : Mem} {Q : Nat → Mem → Prop} {v0 v1 v2 : Int} (o0 : St v0 7 5) (o1 : St v1 7 5) (h : (((μ v0 2) ≤ v2 → (Q n μ)) ∧ (¬ ((μ v0 2) ≤ v2) → (CR G Y_X7_bundleAt [.inr v0, .inl v2] n μ (fun (x2 : Int) (n3 : Nat) (μ4 : Mem) => (St x2 0 9) ∧ (CR G Y_X7_bundleAt [.inr v1, .inl v2] n3 μ4 (fun (x6 : Int) (n7 : Nat) (μ8 : Mem) => (St x6 0 9) ∧ (CV G Y_X0_copyFrom [.inr x2, .inr x6] n7 μ8 (fun (n11 : Nat) (μ12 : Mem) => ((inR (v2 + 1)) ∧ (B_X7_copyFrom_26 G Q n11 μ12 v0 v1 (v2 + 1)))))))))))) : B_X7_copyFrom_26 G Q n μ v0 v1 v2 := by
  show Wa G Y_X7_copyFrom (ZV G Y_X7_copyFrom Q) 0 0 n μ 26 [(0, .inr v0), (1, .inr v1), (2, .inl v2)] []
  refine a_iload_n (k := 2) dX7_copyFrom_26 rfl rfl ?_
  refine a_aload_n (k := 0) dX7_copyFrom_27 rfl rfl ?_
  refine g_X7_24 rfl dX7_copyFrom_28 (St_ho hg o0) ?_
  refine a_icmp_ge (tgt := 53) dX7_copyFrom_31 (by decide) (fun c1 => ?_) (fun c1 => ?_)
  · replace h := h.1 c1
    exact a_ret dX7_copyFrom_53 rfl (Nat.le_of_ble_eq_true rfl) (Nat.le_of_ble_eq_true rfl) h
  · replace h := h.2 c1
    refine a_aload_n (k := 0) dX7_copyFrom_34 rfl rfl ?_
    refine a_iload_n (k := 2) dX7_copyFrom_35 rfl rfl ?_
    refine k_X7_34 rfl dX7_copyFrom_36 (Nat.le_of_ble_eq_true rfl) rfl (Nat.le_of_ble_eq_true rfl) (Nat.le_of_ble_eq_true rfl) (St_ho hg o0) h (fun x2 n3 μ4 _ h => ?_)
    obtain ⟨q5, h⟩ := h
    refine a_aload_n (k := 1) dX7_copyFrom_39 rfl rfl ?_
    refine a_iload_n (k := 2) dX7_copyFrom_40 rfl rfl ?_
    refine k_X7_34 rfl dX7_copyFrom_41 (Nat.le_of_ble_eq_true rfl) rfl (Nat.le_of_ble_eq_true rfl) (Nat.le_of_ble_eq_true rfl) (St_ho hg o1) h (fun x6 n7 μ8 _ h => ?_)
    obtain ⟨q9, h⟩ := h
    refine k_X7_38 rfl dX7_copyFrom_44 (Nat.le_of_ble_eq_true rfl) rfl (Nat.le_of_ble_eq_true rfl) (Nat.le_of_ble_eq_true rfl) (St_ho hg q5) h (fun n11 μ12 h => ?_)
    obtain ⟨q13, h⟩ := h
    refine b_iinc (L' := [(0, .inr v0), (1, .inr v1), (2, .inl (v2 + 1))]) (k := 2) [1, 2, 0] dX7_copyFrom_47 rfl q13 (by decide) rfl ?_
    refine a_goto (tgt := 26) dX7_copyFrom_50 (by decide) ?_
    exact h
theorem m_X7_hasBundle {G : GT} (hg : gx G = FX) {n : Nat} {μ : Mem} {Q : Int → Nat → Mem → Prop} {v0 v1 : Int} (o0 : St v0 7 5) (h : ((v1 < 0 → (Q 0 n μ)) ∧ (¬ (v1 < 0) → (((μ v0 2) ≤ v1 → (Q 0 n μ)) ∧ (¬ ((μ v0 2) ≤ v1) → (Q 1 n μ)))))) : CI G Y_X7_hasBundle [.inr v0, .inl v1] n μ Q := by
  refine e_I (by decide) (Nat.le_of_ble_eq_true rfl) ?_
  show Wa G Y_X7_hasBundle (ZI G Y_X7_hasBundle Q) 0 0 n μ 0 [(0, .inr v0), (1, .inl v1)] []
  refine a_iload_n (k := 1) dX7_hasBundle_0 rfl rfl ?_
  refine a_if_lt (tgt := 16) dX7_hasBundle_1 (by decide) (fun c1 => ?_) (fun c1 => ?_)
  · replace h := h.1 c1
    refine a_iconst dX7_hasBundle_16 (by decide) ?_
    exact a_zret dX7_hasBundle_17 rfl (Nat.le_of_ble_eq_true rfl) (Nat.le_of_ble_eq_true rfl) (by decide) h
  · replace h := h.2 c1
    refine a_iload_n (k := 1) dX7_hasBundle_4 rfl rfl ?_
    refine a_aload_n (k := 0) dX7_hasBundle_5 rfl rfl ?_
    refine g_X7_24 rfl dX7_hasBundle_6 (St_ho hg o0) ?_
    refine a_icmp_ge (tgt := 16) dX7_hasBundle_9 (by decide) (fun c2 => ?_) (fun c2 => ?_)
    · replace h := h.1 c2
      refine a_iconst dX7_hasBundle_16 (by decide) ?_
      exact a_zret dX7_hasBundle_17 rfl (Nat.le_of_ble_eq_true rfl) (Nat.le_of_ble_eq_true rfl) (by decide) h
    · replace h := h.2 c2
      refine a_iconst dX7_hasBundle_12 (by decide) ?_
      refine a_goto (tgt := 17) dX7_hasBundle_13 (by decide) ?_
      exact a_zret dX7_hasBundle_17 rfl (Nat.le_of_ble_eq_true rfl) (Nat.le_of_ble_eq_true rfl) (by decide) h
theorem m_X7_bundleAt {G : GT} (hg : gx G = FX) {n : Nat} {μ : Mem} {Q : Int → Nat → Mem → Prop} {v0 v1 : Int} (o0 : St v0 7 5) (h : ((v1 < 0 → (((0 : Int) ≤ v0 + 1) ∧ (Q (v0 + 1) n μ))) ∧ (¬ (v1 < 0) → ((v1 < 8 → (((0 : Int) ≤ v1 ∧ v1 < 8) ∧ ((¬ (v0 + 4 + 1 + 3 * v1 < 0) → (((0 : Int) ≤ v0 + 4 + 1 + 3 * v1) ∧ (Q (v0 + 4 + 1 + 3 * v1) n μ))) ∧ (v0 + 4 + 1 + 3 * v1 < 0 → (((0 : Int) ≤ v0 + 1) ∧ (Q (v0 + 1) n μ)))))) ∧ (¬ (v1 < 8) → (((0 : Int) ≤ v0 + 1) ∧ (Q (v0 + 1) n μ))))))) : CR G Y_X7_bundleAt [.inr v0, .inl v1] n μ Q := by
  refine e_R (by decide) (Nat.le_of_ble_eq_true rfl) ?_
  show Wa G Y_X7_bundleAt (ZR G Y_X7_bundleAt Q) 0 0 n μ 0 [(0, .inr v0), (1, .inl v1)] []
  refine a_iload_n (k := 1) dX7_bundleAt_0 rfl rfl ?_
  refine a_if_lt (tgt := 13) dX7_bundleAt_1 (by decide) (fun c1 => ?_) (fun c1 => ?_)
  · replace h := h.1 c1
    refine a_aload_n (k := 0) dX7_bundleAt_13 rfl rfl ?_
    refine gs_X7_14 rfl dX7_bundleAt_14 hg o0 ?_
    obtain ⟨q2, h⟩ := h
    exact a_aret dX7_bundleAt_17 rfl (Nat.le_of_ble_eq_true rfl) (Nat.le_of_ble_eq_true rfl) q2 h
  · replace h := h.2 c1
    refine a_iload_n (k := 1) dX7_bundleAt_4 rfl rfl ?_
    refine a_aload_n (k := 0) dX7_bundleAt_5 rfl rfl ?_
    refine gs_X7_20 rfl dX7_bundleAt_6 hg o0 ?_
    refine a_alen (N := 8) (t0 := 2) dX7_bundleAt_9 (by decide) (by decide) rfl (St_ho hg (st_7_4 o0)) ?_
    refine a_icmp_lt (tgt := 18) dX7_bundleAt_10 (by decide) (fun c3 => ?_) (fun c3 => ?_)
    · replace h := h.1 c3
      refine a_aload_n (k := 0) dX7_bundleAt_18 rfl rfl ?_
      refine gs_X7_20 rfl dX7_bundleAt_19 hg o0 ?_
      refine a_iload_n (k := 1) dX7_bundleAt_22 rfl rfl ?_
      obtain ⟨q4, h⟩ := h
      refine a_alds22 dX7_bundleAt_23 hg (st_7_4 o0) q4.1 q4.2 ?_
      refine b_astore_n (L' := [(0, .inr v0), (1, .inl v1), (2, .inr (v0 + 4 + 1 + 3 * v1))]) [1, 2, 0] dX7_bundleAt_24 rfl (by decide) rfl ?_
      refine a_aload_n (k := 2) dX7_bundleAt_25 rfl rfl ?_
      refine a_ifnonnull (tgt := 36) dX7_bundleAt_26 (by decide) (fun c5 => ?_) (fun c5 => ?_)
      · replace h := h.1 c5
        refine a_aload_n (k := 2) dX7_bundleAt_36 rfl rfl ?_
        obtain ⟨q6, h⟩ := h
        exact a_aret dX7_bundleAt_37 rfl (Nat.le_of_ble_eq_true rfl) (Nat.le_of_ble_eq_true rfl) q6 h
      · replace h := h.2 c5
        refine a_aload_n (k := 0) dX7_bundleAt_29 rfl rfl ?_
        refine gs_X7_14 rfl dX7_bundleAt_30 hg o0 ?_
        refine a_goto (tgt := 37) dX7_bundleAt_33 (by decide) ?_
        obtain ⟨q7, h⟩ := h
        exact a_aret dX7_bundleAt_37 rfl (Nat.le_of_ble_eq_true rfl) (Nat.le_of_ble_eq_true rfl) q7 h
    · replace h := h.2 c3
      refine a_aload_n (k := 0) dX7_bundleAt_13 rfl rfl ?_
      refine gs_X7_14 rfl dX7_bundleAt_14 hg o0 ?_
      obtain ⟨q8, h⟩ := h
      exact a_aret dX7_bundleAt_17 rfl (Nat.le_of_ble_eq_true rfl) (Nat.le_of_ble_eq_true rfl) q8 h
theorem m_X7_addBundle {G : GT} (hg : gx G = FX) {n : Nat} {μ : Mem} {Q : Int → Nat → Mem → Prop} {v0 : Int} (o0 : St v0 7 5) (h : ((inR ((μ v0 2) + 1)) ∧ ((inR (((up μ v0 2 ((μ v0 2) + 1)) v0 2) - 1)) ∧ (Q (((up μ v0 2 ((μ v0 2) + 1)) v0 2) - 1) n (up μ v0 2 ((μ v0 2) + 1)))))) : CI G Y_X7_addBundle [.inr v0] n μ Q := by
  refine e_I (by decide) (Nat.le_of_ble_eq_true rfl) ?_
  show Wa G Y_X7_addBundle (ZI G Y_X7_addBundle Q) 0 0 n μ 0 [(0, .inr v0)] []
  refine a_aload_n (k := 0) dX7_addBundle_0 rfl rfl ?_
  refine a_dup dX7_addBundle_1 ?_
  refine g_X7_24 rfl dX7_addBundle_2 (St_ho hg o0) ?_
  refine a_iconst dX7_addBundle_5 (by decide) ?_
  obtain ⟨q1, h⟩ := h
  refine a_iadd dX7_addBundle_6 q1 ?_
  refine p_X7_24 rfl dX7_addBundle_7 (St_ho hg o0) (FX_put hg o0 rfl) ?_
  refine a_aload_n (k := 0) dX7_addBundle_10 rfl rfl ?_
  refine g_X7_24 rfl dX7_addBundle_11 (St_ho hg o0) ?_
  refine a_iconst dX7_addBundle_14 (by decide) ?_
  obtain ⟨q2, h⟩ := h
  refine a_isub dX7_addBundle_15 q2 ?_
  exact a_iret dX7_addBundle_16 rfl (Nat.le_of_ble_eq_true rfl) (Nat.le_of_ble_eq_true rfl) h
theorem m_X7_isMissed {G : GT} (hg : gx G = FX) {n : Nat} {μ : Mem} {Q : Int → Nat → Mem → Prop} {v0 v1 : Int} (o0 : St v0 7 5) (h : ((¬ ((iAnd (iShr (μ v0 4) v1) 1) = 1) → (Q 0 n μ)) ∧ ((iAnd (iShr (μ v0 4) v1) 1) = 1 → (Q 1 n μ)))) : CI G Y_X7_isMissed [.inr v0, .inl v1] n μ Q := by
  refine e_I (by decide) (Nat.le_of_ble_eq_true rfl) ?_
  show Wa G Y_X7_isMissed (ZI G Y_X7_isMissed Q) 0 0 n μ 0 [(0, .inr v0), (1, .inl v1)] []
  refine a_aload_n (k := 0) dX7_isMissed_0 rfl rfl ?_
  refine g_X7_31 rfl dX7_isMissed_1 (St_ho hg o0) ?_
  refine a_iload_n (k := 1) dX7_isMissed_4 rfl rfl ?_
  refine a_ishr dX7_isMissed_5 ?_
  refine a_iconst dX7_isMissed_6 (by decide) ?_
  refine a_iand dX7_isMissed_7 ?_
  refine a_iconst dX7_isMissed_8 (by decide) ?_
  refine a_icmp_ne (tgt := 16) dX7_isMissed_9 (by decide) (fun c1 => ?_) (fun c1 => ?_)
  · replace h := h.1 c1
    refine a_iconst dX7_isMissed_16 (by decide) ?_
    exact a_zret dX7_isMissed_17 rfl (Nat.le_of_ble_eq_true rfl) (Nat.le_of_ble_eq_true rfl) (by decide) h
  · replace h := h.2 c1
    refine a_iconst dX7_isMissed_12 (by decide) ?_
    refine a_goto (tgt := 17) dX7_isMissed_13 (by decide) ?_
    exact a_zret dX7_isMissed_17 rfl (Nat.le_of_ble_eq_true rfl) (Nat.le_of_ble_eq_true rfl) (by decide) h
abbrev B_X7_isOpen_22 (G : GT) (Q : Int → Nat → Mem → Prop) (n : Nat) (μ : Mem) : Prop := Wa G Y_X7_isOpen (ZI G Y_X7_isOpen Q) 0 0 n μ 22 [] []
theorem m_X7_isOpen {G : GT} (hg : gx G = FX) {n : Nat} {μ : Mem} {Q : Int → Nat → Mem → Prop} {v0 v1 : Int} (o0 : St v0 7 5) (h : (CR G Y_X7_bundleAt [.inr v0, .inl v1] n μ (fun (x1 : Int) (n2 : Nat) (μ3 : Mem) => (St x1 0 9) ∧ (CI G Y_X0_standing [.inr x1, .inl (μ3 v0 3)] n2 μ3 (fun (x5 : Int) (n6 : Nat) (μ7 : Mem) => ((x5 = 0 → (B_X7_isOpen_22 G Q n6 μ7)) ∧ (¬ (x5 = 0) → ((¬ (x5 = 1) → (Q 0 n6 μ7)) ∧ (x5 = 1 → (B_X7_isOpen_22 G Q n6 μ7)))))))))) : CI G Y_X7_isOpen [.inr v0, .inl v1] n μ Q := by
  refine e_I (by decide) (Nat.le_of_ble_eq_true rfl) ?_
  show Wa G Y_X7_isOpen (ZI G Y_X7_isOpen Q) 0 0 n μ 0 [(0, .inr v0), (1, .inl v1)] []
  refine a_aload_n (k := 0) dX7_isOpen_0 rfl rfl ?_
  refine a_iload_n (k := 1) dX7_isOpen_1 rfl rfl ?_
  refine k_X7_34 rfl dX7_isOpen_2 (Nat.le_of_ble_eq_true rfl) rfl (Nat.le_of_ble_eq_true rfl) (Nat.le_of_ble_eq_true rfl) (St_ho hg o0) h (fun x1 n2 μ3 _ h => ?_)
  obtain ⟨q4, h⟩ := h
  refine a_aload_n (k := 0) dX7_isOpen_5 rfl rfl ?_
  refine g_X7_28 rfl dX7_isOpen_6 (St_ho hg o0) ?_
  refine k_X7_42 rfl dX7_isOpen_9 (Nat.le_of_ble_eq_true rfl) rfl (Nat.le_of_ble_eq_true rfl) (Nat.le_of_ble_eq_true rfl) (St_ho hg q4) h (fun x5 n6 μ7 h => ?_)
  refine b_istore_n (L' := [(0, .inr v0), (1, .inl v1), (2, .inl x5)]) [1, 2, 0] dX7_isOpen_12 rfl (by decide) rfl ?_
  refine a_iload_n (k := 2) dX7_isOpen_13 rfl rfl ?_
  refine a_if_eq (tgt := 22) dX7_isOpen_14 (by decide) (fun c8 => ?_) (fun c8 => ?_)
  · replace h := h.1 c8
    refine a_sub [] rfl ?_
    exact h
  · replace h := h.2 c8
    refine a_iload_n (k := 2) dX7_isOpen_17 rfl rfl ?_
    refine a_iconst dX7_isOpen_18 (by decide) ?_
    refine a_icmp_ne (tgt := 26) dX7_isOpen_19 (by decide) (fun c9 => ?_) (fun c9 => ?_)
    · replace h := h.1 c9
      refine a_iconst dX7_isOpen_26 (by decide) ?_
      exact a_zret dX7_isOpen_27 rfl (Nat.le_of_ble_eq_true rfl) (Nat.le_of_ble_eq_true rfl) (by decide) h
    · replace h := h.2 c9
      refine a_sub [] rfl ?_
      exact h
theorem b_X7_isOpen_22 {G : GT} (hg : gx G = FX) {n : Nat} {μ : Mem} {Q : Int → Nat → Mem → Prop}  (h : (Q 1 n μ)) : B_X7_isOpen_22 G Q n μ := by
  show Wa G Y_X7_isOpen (ZI G Y_X7_isOpen Q) 0 0 n μ 22 [] []
  refine a_iconst dX7_isOpen_22 (by decide) ?_
  refine a_goto (tgt := 27) dX7_isOpen_23 (by decide) ?_
  exact a_zret dX7_isOpen_27 rfl (Nat.le_of_ble_eq_true rfl) (Nat.le_of_ble_eq_true rfl) (by decide) h
theorem m_X7_countStanding {G : GT} (hg : gx G = FX) {n : Nat} {μ : Mem} {Q : Int → Nat → Mem → Prop} {v0 v1 : Int} (o0 : St v0 7 5) (h : (CI G Y_X7_allStanding [.inr v0, .inl v1] n μ (fun (x1 : Int) (n2 : Nat) (μ3 : Mem) => (CI G Y_J6_bitCount_0f7a4 [.inl x1] n2 μ3 (fun (x4 : Int) (n5 : Nat) (μ6 : Mem) => (Q x4 n5 μ6)))))) : CI G Y_X7_countStanding [.inr v0, .inl v1] n μ Q := by
  refine e_I (by decide) (Nat.le_of_ble_eq_true rfl) ?_
  show Wa G Y_X7_countStanding (ZI G Y_X7_countStanding Q) 0 0 n μ 0 [(0, .inr v0), (1, .inl v1)] []
  refine a_aload_n (k := 0) dX7_countStanding_0 rfl rfl ?_
  refine a_iload_n (k := 1) dX7_countStanding_1 rfl rfl ?_
  refine k_X7_46 rfl dX7_countStanding_2 (Nat.le_of_ble_eq_true rfl) rfl (Nat.le_of_ble_eq_true rfl) (Nat.le_of_ble_eq_true rfl) (St_ho hg o0) h (fun x1 n2 μ3 h => ?_)
  refine k_X7_49 rfl dX7_countStanding_5 (Nat.le_of_ble_eq_true rfl) rfl (Nat.le_of_ble_eq_true rfl) (Nat.le_of_ble_eq_true rfl) h (fun x4 n5 μ6 h => ?_)
  exact a_iret dX7_countStanding_8 rfl (Nat.le_of_ble_eq_true rfl) (Nat.le_of_ble_eq_true rfl) h
abbrev B_X7_allStanding_4 (G : GT) (Q : Int → Nat → Mem → Prop) (n : Nat) (μ : Mem) (v0 : Int) (v1 : Int) (v2 : Int) (v3 : Int) : Prop := Wa G Y_X7_allStanding (ZI G Y_X7_allStanding Q) 0 0 n μ 4 [(0, .inr v0), (1, .inl v1), (2, .inl v2), (3, .inl v3)] []
theorem m_X7_allStanding {G : GT} (hg : gx G = FX) {n : Nat} {μ : Mem} {Q : Int → Nat → Mem → Prop} {v0 v1 : Int} (o0 : St v0 7 5) (h : (B_X7_allStanding_4 G Q n μ v0 v1 0 0)) : CI G Y_X7_allStanding [.inr v0, .inl v1] n μ Q := by
  refine e_I (by decide) (Nat.le_of_ble_eq_true rfl) ?_
  show Wa G Y_X7_allStanding (ZI G Y_X7_allStanding Q) 0 0 n μ 0 [(0, .inr v0), (1, .inl v1)] []
  refine a_iconst dX7_allStanding_0 (by decide) ?_
  refine b_istore_n (L' := [(0, .inr v0), (1, .inl v1), (2, .inl 0)]) [1, 2, 0] dX7_allStanding_1 rfl (by decide) rfl ?_
  refine a_iconst dX7_allStanding_2 (by decide) ?_
  refine b_istore_n (L' := [(0, .inr v0), (1, .inl v1), (2, .inl 0), (3, .inl 0)]) [1, 2, 3, 0] dX7_allStanding_3 rfl (by decide) rfl ?_
  exact h
theorem b_X7_allStanding_4 {G : GT} (hg : gx G = FX) {n : Nat} {μ : Mem} {Q : Int → Nat → Mem → Prop} {v0 v1 v2 v3 : Int} (o0 : St v0 7 5) (h : (((μ v0 2) ≤ v3 → (Q v2 n μ)) ∧ (¬ ((μ v0 2) ≤ v3) → (CR G Y_X7_bundleAt [.inr v0, .inl v3] n μ (fun (x2 : Int) (n3 : Nat) (μ4 : Mem) => (St x2 0 9) ∧ (CI G Y_X0_standing [.inr x2, .inl (μ4 v0 3)] n3 μ4 (fun (x6 : Int) (n7 : Nat) (μ8 : Mem) => ((¬ (x6 = v1) → ((inR (v3 + 1)) ∧ (B_X7_allStanding_4 G Q n7 μ8 v0 v1 v2 (v3 + 1)))) ∧ (x6 = v1 → ((inR (v3 + 1)) ∧ (B_X7_allStanding_4 G Q n7 μ8 v0 v1 (iOr v2 (iShl 1 v3)) (v3 + 1)))))))))))) : B_X7_allStanding_4 G Q n μ v0 v1 v2 v3 := by
  show Wa G Y_X7_allStanding (ZI G Y_X7_allStanding Q) 0 0 n μ 4 [(0, .inr v0), (1, .inl v1), (2, .inl v2), (3, .inl v3)] []
  refine a_iload_n (k := 3) dX7_allStanding_4 rfl rfl ?_
  refine a_aload_n (k := 0) dX7_allStanding_5 rfl rfl ?_
  refine g_X7_24 rfl dX7_allStanding_6 (St_ho hg o0) ?_
  refine a_icmp_ge (tgt := 40) dX7_allStanding_9 (by decide) (fun c1 => ?_) (fun c1 => ?_)
  · replace h := h.1 c1
    refine a_iload_n (k := 2) dX7_allStanding_40 rfl rfl ?_
    exact a_iret dX7_allStanding_41 rfl (Nat.le_of_ble_eq_true rfl) (Nat.le_of_ble_eq_true rfl) h
  · replace h := h.2 c1
    refine a_aload_n (k := 0) dX7_allStanding_12 rfl rfl ?_
    refine a_iload_n (k := 3) dX7_allStanding_13 rfl rfl ?_
    refine k_X7_34 rfl dX7_allStanding_14 (Nat.le_of_ble_eq_true rfl) rfl (Nat.le_of_ble_eq_true rfl) (Nat.le_of_ble_eq_true rfl) (St_ho hg o0) h (fun x2 n3 μ4 _ h => ?_)
    obtain ⟨q5, h⟩ := h
    refine a_aload_n (k := 0) dX7_allStanding_17 rfl rfl ?_
    refine g_X7_28 rfl dX7_allStanding_18 (St_ho hg o0) ?_
    refine k_X7_42 rfl dX7_allStanding_21 (Nat.le_of_ble_eq_true rfl) rfl (Nat.le_of_ble_eq_true rfl) (Nat.le_of_ble_eq_true rfl) (St_ho hg q5) h (fun x6 n7 μ8 h => ?_)
    refine a_iload_n (k := 1) dX7_allStanding_24 rfl rfl ?_
    refine a_icmp_ne (tgt := 34) dX7_allStanding_25 (by decide) (fun c9 => ?_) (fun c9 => ?_)
    · replace h := h.1 c9
      obtain ⟨q10, h⟩ := h
      refine b_iinc (L' := [(0, .inr v0), (1, .inl v1), (2, .inl v2), (3, .inl (v3 + 1))]) (k := 3) [1, 2, 3, 0] dX7_allStanding_34 rfl q10 (by decide) rfl ?_
      refine a_goto (tgt := 4) dX7_allStanding_37 (by decide) ?_
      exact h
    · replace h := h.2 c9
      refine a_iload_n (k := 2) dX7_allStanding_28 rfl rfl ?_
      refine a_iconst dX7_allStanding_29 (by decide) ?_
      refine a_iload_n (k := 3) dX7_allStanding_30 rfl rfl ?_
      refine a_ishl dX7_allStanding_31 ?_
      refine a_ior dX7_allStanding_32 ?_
      refine b_istore_n (L' := [(0, .inr v0), (1, .inl v1), (2, .inl (iOr v2 (iShl 1 v3))), (3, .inl v3)]) [1, 2, 0, 3] dX7_allStanding_33 rfl (by decide) rfl ?_
      obtain ⟨q11, h⟩ := h
      refine b_iinc (L' := [(0, .inr v0), (1, .inl v1), (2, .inl (iOr v2 (iShl 1 v3))), (3, .inl (v3 + 1))]) (k := 3) [1, 2, 3, 0] dX7_allStanding_34 rfl q11 (by decide) rfl ?_
      refine a_goto (tgt := 4) dX7_allStanding_37 (by decide) ?_
      exact h
theorem m_X7_tickAtGoal {G : GT} (hg : gx G = FX) {n : Nat} {μ : Mem} {Q : Int → Nat → Mem → Prop} {v0 v1 : Int} (o0 : St v0 7 5) (h : (CR G Y_X7_bundleAt [.inr v0, .inl v1] n μ (fun (x1 : Int) (n2 : Nat) (μ3 : Mem) => (St x1 0 9) ∧ (CI G Y_X0_standing [.inr x1, .inl (μ3 v0 3)] n2 μ3 (fun (x5 : Int) (n6 : Nat) (μ7 : Mem) => ((¬ (x5 = 2) → ((¬ (x5 = 1) → (Q (-9) n6 μ7)) ∧ (x5 = 1 → (CR G Y_X7_bundleAt [.inr v0, .inl v1] n6 μ7 (fun (x10 : Int) (n11 : Nat) (μ12 : Mem) => (St x10 0 9) ∧ (CI G Y_X0_lastThere [.inr x10] n11 μ12 (fun (x14 : Int) (n15 : Nat) (μ16 : Mem) => (Q x14 n15 μ16)))))))) ∧ (x5 = 2 → (Q (μ7 v0 3) n6 μ7)))))))) : CI G Y_X7_tickAtGoal [.inr v0, .inl v1] n μ Q := by
  refine e_I (by decide) (Nat.le_of_ble_eq_true rfl) ?_
  show Wa G Y_X7_tickAtGoal (ZI G Y_X7_tickAtGoal Q) 0 0 n μ 0 [(0, .inr v0), (1, .inl v1)] []
  refine a_aload_n (k := 0) dX7_tickAtGoal_0 rfl rfl ?_
  refine a_iload_n (k := 1) dX7_tickAtGoal_1 rfl rfl ?_
  refine k_X7_34 rfl dX7_tickAtGoal_2 (Nat.le_of_ble_eq_true rfl) rfl (Nat.le_of_ble_eq_true rfl) (Nat.le_of_ble_eq_true rfl) (St_ho hg o0) h (fun x1 n2 μ3 _ h => ?_)
  obtain ⟨q4, h⟩ := h
  refine a_aload_n (k := 0) dX7_tickAtGoal_5 rfl rfl ?_
  refine g_X7_28 rfl dX7_tickAtGoal_6 (St_ho hg o0) ?_
  refine k_X7_42 rfl dX7_tickAtGoal_9 (Nat.le_of_ble_eq_true rfl) rfl (Nat.le_of_ble_eq_true rfl) (Nat.le_of_ble_eq_true rfl) (St_ho hg q4) h (fun x5 n6 μ7 h => ?_)
  refine b_istore_n (L' := [(0, .inr v0), (1, .inl v1), (2, .inl x5)]) [1, 2, 0] dX7_tickAtGoal_12 rfl (by decide) rfl ?_
  refine a_iload_n (k := 2) dX7_tickAtGoal_13 rfl rfl ?_
  refine a_iconst dX7_tickAtGoal_14 (by decide) ?_
  refine a_icmp_ne (tgt := 23) dX7_tickAtGoal_15 (by decide) (fun c8 => ?_) (fun c8 => ?_)
  · replace h := h.1 c8
    refine a_iload_n (k := 2) dX7_tickAtGoal_23 rfl rfl ?_
    refine a_iconst dX7_tickAtGoal_24 (by decide) ?_
    refine a_icmp_ne (tgt := 39) dX7_tickAtGoal_25 (by decide) (fun c9 => ?_) (fun c9 => ?_)
    · replace h := h.1 c9
      refine a_bipush dX7_tickAtGoal_39 (by decide) (by decide) ?_
      exact a_iret dX7_tickAtGoal_41 rfl (Nat.le_of_ble_eq_true rfl) (Nat.le_of_ble_eq_true rfl) h
    · replace h := h.2 c9
      refine a_aload_n (k := 0) dX7_tickAtGoal_28 rfl rfl ?_
      refine a_iload_n (k := 1) dX7_tickAtGoal_29 rfl rfl ?_
      refine k_X7_34 rfl dX7_tickAtGoal_30 (Nat.le_of_ble_eq_true rfl) rfl (Nat.le_of_ble_eq_true rfl) (Nat.le_of_ble_eq_true rfl) (St_ho hg o0) h (fun x10 n11 μ12 _ h => ?_)
      obtain ⟨q13, h⟩ := h
      refine k_X7_54 rfl dX7_tickAtGoal_33 (Nat.le_of_ble_eq_true rfl) rfl (Nat.le_of_ble_eq_true rfl) (Nat.le_of_ble_eq_true rfl) (St_ho hg q13) h (fun x14 n15 μ16 h => ?_)
      refine a_goto (tgt := 41) dX7_tickAtGoal_36 (by decide) ?_
      exact a_iret dX7_tickAtGoal_41 rfl (Nat.le_of_ble_eq_true rfl) (Nat.le_of_ble_eq_true rfl) h
  · replace h := h.2 c8
    refine a_aload_n (k := 0) dX7_tickAtGoal_18 rfl rfl ?_
    refine g_X7_28 rfl dX7_tickAtGoal_19 (St_ho hg o0) ?_
    exact a_iret dX7_tickAtGoal_22 rfl (Nat.le_of_ble_eq_true rfl) (Nat.le_of_ble_eq_true rfl) h
abbrev B_X7_takerOf_2 (G : GT) (Q : Int → Nat → Mem → Prop) (n : Nat) (μ : Mem) (v0 : Int) (v1 : Int) (v2 : Int) (v3 : Int) : Prop := Wa G Y_X7_takerOf (ZI G Y_X7_takerOf Q) 0 0 n μ 2 [(0, .inr v0), (1, .inl v1), (2, .inl v2), (3, .inl v3)] []
theorem m_X7_takerOf {G : GT} (hg : gx G = FX) {n : Nat} {μ : Mem} {Q : Int → Nat → Mem → Prop} {v0 v1 v2 : Int} (o0 : St v0 7 5) (h : (B_X7_takerOf_2 G Q n μ v0 v1 v2 0)) : CI G Y_X7_takerOf [.inr v0, .inl v1, .inl v2] n μ Q := by
  refine e_I (by decide) (Nat.le_of_ble_eq_true rfl) ?_
  show Wa G Y_X7_takerOf (ZI G Y_X7_takerOf Q) 0 0 n μ 0 [(0, .inr v0), (1, .inl v1), (2, .inl v2)] []
  refine a_iconst dX7_takerOf_0 (by decide) ?_
  refine b_istore_n (L' := [(0, .inr v0), (1, .inl v1), (2, .inl v2), (3, .inl 0)]) [1, 2, 3, 0] dX7_takerOf_1 rfl (by decide) rfl ?_
  exact h
theorem b_X7_takerOf_2 {G : GT} (hg : gx G = FX) {n : Nat} {μ : Mem} {Q : Int → Nat → Mem → Prop} {v0 v1 v2 v3 : Int} (o0 : St v0 7 5) (h : (((μ v0 2) ≤ v3 → (Q (-9) n μ)) ∧ (¬ ((μ v0 2) ≤ v3) → (CR G Y_X7_bundleAt [.inr v0, .inl v3] n μ (fun (x2 : Int) (n3 : Nat) (μ4 : Mem) => (St x2 0 9) ∧ (CI G Y_X0_takes [.inr x2, .inl v1, .inl v2] n3 μ4 (fun (x6 : Int) (n7 : Nat) (μ8 : Mem) => ((x6 = 0 → ((inR (v3 + 1)) ∧ (B_X7_takerOf_2 G Q n7 μ8 v0 v1 v2 (v3 + 1)))) ∧ (¬ (x6 = 0) → (Q v3 n7 μ8)))))))))) : B_X7_takerOf_2 G Q n μ v0 v1 v2 v3 := by
  show Wa G Y_X7_takerOf (ZI G Y_X7_takerOf Q) 0 0 n μ 2 [(0, .inr v0), (1, .inl v1), (2, .inl v2), (3, .inl v3)] []
  refine a_iload_n (k := 3) dX7_takerOf_2 rfl rfl ?_
  refine a_aload_n (k := 0) dX7_takerOf_3 rfl rfl ?_
  refine g_X7_24 rfl dX7_takerOf_4 (St_ho hg o0) ?_
  refine a_icmp_ge (tgt := 31) dX7_takerOf_7 (by decide) (fun c1 => ?_) (fun c1 => ?_)
  · replace h := h.1 c1
    refine a_bipush dX7_takerOf_31 (by decide) (by decide) ?_
    exact a_iret dX7_takerOf_33 rfl (Nat.le_of_ble_eq_true rfl) (Nat.le_of_ble_eq_true rfl) h
  · replace h := h.2 c1
    refine a_aload_n (k := 0) dX7_takerOf_10 rfl rfl ?_
    refine a_iload_n (k := 3) dX7_takerOf_11 rfl rfl ?_
    refine k_X7_34 rfl dX7_takerOf_12 (Nat.le_of_ble_eq_true rfl) rfl (Nat.le_of_ble_eq_true rfl) (Nat.le_of_ble_eq_true rfl) (St_ho hg o0) h (fun x2 n3 μ4 _ h => ?_)
    obtain ⟨q5, h⟩ := h
    refine a_iload_n (k := 1) dX7_takerOf_15 rfl rfl ?_
    refine a_iload_n (k := 2) dX7_takerOf_16 rfl rfl ?_
    refine k_X7_58 rfl dX7_takerOf_17 (Nat.le_of_ble_eq_true rfl) rfl (Nat.le_of_ble_eq_true rfl) (Nat.le_of_ble_eq_true rfl) (St_ho hg q5) h (fun x6 n7 μ8 h => ?_)
    refine a_if_eq (tgt := 25) dX7_takerOf_20 (by decide) (fun c9 => ?_) (fun c9 => ?_)
    · replace h := h.1 c9
      obtain ⟨q10, h⟩ := h
      refine b_iinc (L' := [(0, .inr v0), (1, .inl v1), (2, .inl v2), (3, .inl (v3 + 1))]) (k := 3) [1, 2, 3, 0] dX7_takerOf_25 rfl q10 (by decide) rfl ?_
      refine a_goto (tgt := 2) dX7_takerOf_28 (by decide) ?_
      exact h
    · replace h := h.2 c9
      refine a_iload_n (k := 3) dX7_takerOf_23 rfl rfl ?_
      exact a_iret dX7_takerOf_24 rfl (Nat.le_of_ble_eq_true rfl) (Nat.le_of_ble_eq_true rfl) h
abbrev B_X7_advance_12 (G : GT) (Q : Nat → Mem → Prop) (n : Nat) (μ : Mem) (v0 : Int) (v2 : Int) : Prop := Wa G Y_X7_advance (ZV G Y_X7_advance Q) 0 0 n μ 12 [(0, .inr v0), (2, .inl v2)] []
theorem m_X7_advance {G : GT} (hg : gx G = FX) {n : Nat} {μ : Mem} {Q : Nat → Mem → Prop} {v0 v1 : Int} (o0 : St v0 7 5) (h : ((inR ((μ v0 3) + v1)) ∧ (B_X7_advance_12 G Q n (up μ v0 3 ((μ v0 3) + v1)) v0 0))) : CV G Y_X7_advance [.inr v0, .inl v1] n μ Q := by
  refine e_V (by decide) (Nat.le_of_ble_eq_true rfl) ?_
  show Wa G Y_X7_advance (ZV G Y_X7_advance Q) 0 0 n μ 0 [(0, .inr v0), (1, .inl v1)] []
  refine a_aload_n (k := 0) dX7_advance_0 rfl rfl ?_
  refine a_dup dX7_advance_1 ?_
  refine g_X7_28 rfl dX7_advance_2 (St_ho hg o0) ?_
  refine a_iload_n (k := 1) dX7_advance_5 rfl rfl ?_
  obtain ⟨q1, h⟩ := h
  refine a_iadd dX7_advance_6 q1 ?_
  refine p_X7_28 rfl dX7_advance_7 (St_ho hg o0) (FX_put hg o0 rfl) ?_
  refine a_iconst dX7_advance_10 (by decide) ?_
  refine b_istore_n (L' := [(0, .inr v0), (1, .inl v1), (2, .inl 0)]) [1, 2, 0] dX7_advance_11 rfl (by decide) rfl ?_
  refine a_sub [0, 2] rfl ?_
  exact h
theorem b_X7_advance_12 {G : GT} (hg : gx G = FX) {n : Nat} {μ : Mem} {Q : Nat → Mem → Prop} {v0 v2 : Int} (o0 : St v0 7 5) (h : (((μ v0 2) ≤ v2 → (Q n μ)) ∧ (¬ ((μ v0 2) ≤ v2) → (CR G Y_X7_bundleAt [.inr v0, .inl v2] n μ (fun (x2 : Int) (n3 : Nat) (μ4 : Mem) => (St x2 0 9) ∧ (CV G Y_X0_arrive [.inr x2, .inl (μ4 v0 3)] n3 μ4 (fun (n7 : Nat) (μ8 : Mem) => ((inR (v2 + 1)) ∧ (B_X7_advance_12 G Q n7 μ8 v0 (v2 + 1)))))))))) : B_X7_advance_12 G Q n μ v0 v2 := by
  show Wa G Y_X7_advance (ZV G Y_X7_advance Q) 0 0 n μ 12 [(0, .inr v0), (2, .inl v2)] []
  refine a_iload_n (k := 1) dX7_advance_12 rfl rfl ?_
  refine a_aload_n (k := 0) dX7_advance_13 rfl rfl ?_
  refine g_X7_24 rfl dX7_advance_14 (St_ho hg o0) ?_
  refine a_icmp_ge (tgt := 38) dX7_advance_17 (by decide) (fun c1 => ?_) (fun c1 => ?_)
  · replace h := h.1 c1
    exact a_ret dX7_advance_38 rfl (Nat.le_of_ble_eq_true rfl) (Nat.le_of_ble_eq_true rfl) h
  · replace h := h.2 c1
    refine a_aload_n (k := 0) dX7_advance_20 rfl rfl ?_
    refine a_iload_n (k := 1) dX7_advance_21 rfl rfl ?_
    refine k_X7_34 rfl dX7_advance_22 (Nat.le_of_ble_eq_true rfl) rfl (Nat.le_of_ble_eq_true rfl) (Nat.le_of_ble_eq_true rfl) (St_ho hg o0) h (fun x2 n3 μ4 _ h => ?_)
    obtain ⟨q5, h⟩ := h
    refine a_aload_n (k := 0) dX7_advance_25 rfl rfl ?_
    refine g_X7_28 rfl dX7_advance_26 (St_ho hg o0) ?_
    refine k_X7_62 rfl dX7_advance_29 (Nat.le_of_ble_eq_true rfl) rfl (Nat.le_of_ble_eq_true rfl) (Nat.le_of_ble_eq_true rfl) (St_ho hg q5) h (fun n7 μ8 h => ?_)
    obtain ⟨q9, h⟩ := h
    refine b_iinc (L' := [(0, .inr v0), (2, .inl (v2 + 1))]) (k := 1) [1, 0] dX7_advance_32 rfl q9 (by decide) rfl ?_
    refine a_goto (tgt := 12) dX7_advance_35 (by decide) ?_
    exact h
abbrev B_X7_lose_16 (G : GT) (Q : Int → Nat → Mem → Prop) (n : Nat) (μ : Mem) (v0 : Int) (v1 : Int) (v2 : Int) (v3 : Int) : Prop := Wa G Y_X7_lose (ZI G Y_X7_lose Q) 0 0 n μ 16 [(0, .inr v0), (1, .inl v1), (2, .inl v2), (3, .inl v3)] []
theorem m_X7_lose {G : GT} (hg : gx G = FX) {n : Nat} {μ : Mem} {Q : Int → Nat → Mem → Prop} {v0 v1 : Int} (o0 : St v0 7 5) (h : (B_X7_lose_16 G Q n (up μ v0 4 (iOr (μ v0 4) (iShl 1 v1))) v0 v1 0 0)) : CI G Y_X7_lose [.inr v0, .inl v1] n μ Q := by
  refine e_I (by decide) (Nat.le_of_ble_eq_true rfl) ?_
  show Wa G Y_X7_lose (ZI G Y_X7_lose Q) 0 0 n μ 0 [(0, .inr v0), (1, .inl v1)] []
  refine a_aload_n (k := 0) dX7_lose_0 rfl rfl ?_
  refine a_dup dX7_lose_1 ?_
  refine g_X7_31 rfl dX7_lose_2 (St_ho hg o0) ?_
  refine a_iconst dX7_lose_5 (by decide) ?_
  refine a_iload_n (k := 1) dX7_lose_6 rfl rfl ?_
  refine a_ishl dX7_lose_7 ?_
  refine a_ior dX7_lose_8 ?_
  refine p_X7_31 rfl dX7_lose_9 (St_ho hg o0) (FX_put hg o0 rfl) ?_
  refine a_iconst dX7_lose_12 (by decide) ?_
  refine b_istore_n (L' := [(0, .inr v0), (1, .inl v1), (2, .inl 0)]) [1, 2, 0] dX7_lose_13 rfl (by decide) rfl ?_
  refine a_iconst dX7_lose_14 (by decide) ?_
  refine b_istore_n (L' := [(0, .inr v0), (1, .inl v1), (2, .inl 0), (3, .inl 0)]) [1, 2, 3, 0] dX7_lose_15 rfl (by decide) rfl ?_
  exact h
theorem b_X7_lose_16 {G : GT} (hg : gx G = FX) {n : Nat} {μ : Mem} {Q : Int → Nat → Mem → Prop} {v0 v1 v2 v3 : Int} (o0 : St v0 7 5) (h : (((μ v0 2) ≤ v3 → (Q v2 n μ)) ∧ (¬ ((μ v0 2) ≤ v3) → (CR G Y_X7_bundleAt [.inr v0, .inl v3] n μ (fun (x2 : Int) (n3 : Nat) (μ4 : Mem) => (St x2 0 9) ∧ (CI G Y_X0_loses [.inr x2, .inl v1, .inl (μ4 v0 3)] n3 μ4 (fun (x6 : Int) (n7 : Nat) (μ8 : Mem) => ((x6 = 0 → ((inR (v3 + 1)) ∧ (B_X7_lose_16 G Q n7 μ8 v0 v1 v2 (v3 + 1)))) ∧ (¬ (x6 = 0) → (CI G Y_X7_isOpen [.inr v0, .inl v3] n7 μ8 (fun (x11 : Int) (n12 : Nat) (μ13 : Mem) => ((x11 = 0 → ((inR (v3 + 1)) ∧ (B_X7_lose_16 G Q n12 μ13 v0 v1 v2 (v3 + 1)))) ∧ (¬ (x11 = 0) → ((inR (v3 + 1)) ∧ (B_X7_lose_16 G Q n12 μ13 v0 v1 (iOr v2 (iShl 1 v3)) (v3 + 1)))))))))))))))) : B_X7_lose_16 G Q n μ v0 v1 v2 v3 := by
  show Wa G Y_X7_lose (ZI G Y_X7_lose Q) 0 0 n μ 16 [(0, .inr v0), (1, .inl v1), (2, .inl v2), (3, .inl v3)] []
  refine a_iload_n (k := 3) dX7_lose_16 rfl rfl ?_
  refine a_aload_n (k := 0) dX7_lose_17 rfl rfl ?_
  refine g_X7_24 rfl dX7_lose_18 (St_ho hg o0) ?_
  refine a_icmp_ge (tgt := 60) dX7_lose_21 (by decide) (fun c1 => ?_) (fun c1 => ?_)
  · replace h := h.1 c1
    refine a_iload_n (k := 2) dX7_lose_60 rfl rfl ?_
    exact a_iret dX7_lose_61 rfl (Nat.le_of_ble_eq_true rfl) (Nat.le_of_ble_eq_true rfl) h
  · replace h := h.2 c1
    refine a_aload_n (k := 0) dX7_lose_24 rfl rfl ?_
    refine a_iload_n (k := 3) dX7_lose_25 rfl rfl ?_
    refine k_X7_34 rfl dX7_lose_26 (Nat.le_of_ble_eq_true rfl) rfl (Nat.le_of_ble_eq_true rfl) (Nat.le_of_ble_eq_true rfl) (St_ho hg o0) h (fun x2 n3 μ4 _ h => ?_)
    obtain ⟨q5, h⟩ := h
    refine a_iload_n (k := 1) dX7_lose_29 rfl rfl ?_
    refine a_aload_n (k := 0) dX7_lose_30 rfl rfl ?_
    refine g_X7_28 rfl dX7_lose_31 (St_ho hg o0) ?_
    refine k_X7_66 rfl dX7_lose_34 (Nat.le_of_ble_eq_true rfl) rfl (Nat.le_of_ble_eq_true rfl) (Nat.le_of_ble_eq_true rfl) (St_ho hg q5) h (fun x6 n7 μ8 h => ?_)
    refine a_if_eq (tgt := 54) dX7_lose_37 (by decide) (fun c9 => ?_) (fun c9 => ?_)
    · replace h := h.1 c9
      obtain ⟨q10, h⟩ := h
      refine b_iinc (L' := [(0, .inr v0), (1, .inl v1), (2, .inl v2), (3, .inl (v3 + 1))]) (k := 3) [1, 2, 3, 0] dX7_lose_54 rfl q10 (by decide) rfl ?_
      refine a_goto (tgt := 16) dX7_lose_57 (by decide) ?_
      exact h
    · replace h := h.2 c9
      refine a_aload_n (k := 0) dX7_lose_40 rfl rfl ?_
      refine a_iload_n (k := 3) dX7_lose_41 rfl rfl ?_
      refine k_X7_69 rfl dX7_lose_42 (Nat.le_of_ble_eq_true rfl) rfl (Nat.le_of_ble_eq_true rfl) (Nat.le_of_ble_eq_true rfl) (St_ho hg o0) h (fun x11 n12 μ13 h => ?_)
      refine a_if_eq (tgt := 54) dX7_lose_45 (by decide) (fun c14 => ?_) (fun c14 => ?_)
      · replace h := h.1 c14
        obtain ⟨q15, h⟩ := h
        refine b_iinc (L' := [(0, .inr v0), (1, .inl v1), (2, .inl v2), (3, .inl (v3 + 1))]) (k := 3) [1, 2, 3, 0] dX7_lose_54 rfl q15 (by decide) rfl ?_
        refine a_goto (tgt := 16) dX7_lose_57 (by decide) ?_
        exact h
      · replace h := h.2 c14
        refine a_iload_n (k := 2) dX7_lose_48 rfl rfl ?_
        refine a_iconst dX7_lose_49 (by decide) ?_
        refine a_iload_n (k := 3) dX7_lose_50 rfl rfl ?_
        refine a_ishl dX7_lose_51 ?_
        refine a_ior dX7_lose_52 ?_
        refine b_istore_n (L' := [(0, .inr v0), (1, .inl v1), (2, .inl (iOr v2 (iShl 1 v3))), (3, .inl v3)]) [1, 2, 0, 3] dX7_lose_53 rfl (by decide) rfl ?_
        obtain ⟨q16, h⟩ := h
        refine b_iinc (L' := [(0, .inr v0), (1, .inl v1), (2, .inl (iOr v2 (iShl 1 v3))), (3, .inl (v3 + 1))]) (k := 3) [1, 2, 3, 0] dX7_lose_54 rfl q16 (by decide) rfl ?_
        refine a_goto (tgt := 16) dX7_lose_57 (by decide) ?_
        exact h
theorem m_X7_regain {G : GT} (hg : gx G = FX) {n : Nat} {μ : Mem} {Q : Int → Nat → Mem → Prop} {v0 v1 : Int} (o0 : St v0 7 5) (h : (CI G Y_X7_allStanding [.inr v0, .inl 0] n (up μ v0 4 (iAnd (μ v0 4) (iXor (iShl 1 v1) (-1)))) (fun (x1 : Int) (n2 : Nat) (μ3 : Mem) => (Q x1 n2 μ3)))) : CI G Y_X7_regain [.inr v0, .inl v1] n μ Q := by
  refine e_I (by decide) (Nat.le_of_ble_eq_true rfl) ?_
  show Wa G Y_X7_regain (ZI G Y_X7_regain Q) 0 0 n μ 0 [(0, .inr v0), (1, .inl v1)] []
  refine a_aload_n (k := 0) dX7_regain_0 rfl rfl ?_
  refine a_dup dX7_regain_1 ?_
  refine g_X7_31 rfl dX7_regain_2 (St_ho hg o0) ?_
  refine a_iconst dX7_regain_5 (by decide) ?_
  refine a_iload_n (k := 1) dX7_regain_6 rfl rfl ?_
  refine a_ishl dX7_regain_7 ?_
  refine a_iconst dX7_regain_8 (by decide) ?_
  refine a_ixor dX7_regain_9 ?_
  refine a_iand dX7_regain_10 ?_
  refine p_X7_31 rfl dX7_regain_11 (St_ho hg o0) (FX_put hg o0 rfl) ?_
  refine a_aload_n (k := 0) dX7_regain_14 rfl rfl ?_
  refine a_iconst dX7_regain_15 (by decide) ?_
  refine k_X7_46 rfl dX7_regain_16 (Nat.le_of_ble_eq_true rfl) rfl (Nat.le_of_ble_eq_true rfl) (Nat.le_of_ble_eq_true rfl) (St_ho hg o0) h (fun x1 n2 μ3 h => ?_)
  exact a_iret dX7_regain_19 rfl (Nat.le_of_ble_eq_true rfl) (Nat.le_of_ble_eq_true rfl) h
theorem m_X2_forgetAll {G : GT} (hg : gx G = FX) {n : Nat} {μ : Mem} {Q : Nat → Mem → Prop}  (h : (Q n (up μ 76 3 0))) : CV G Y_X2_forgetAll [.inr 76] n μ Q := by
  refine e_V (by decide) (Nat.le_of_ble_eq_true rfl) ?_
  show Wa G Y_X2_forgetAll (ZV G Y_X2_forgetAll Q) 0 0 n μ 0 [(0, .inr 76)] []
  refine a_aload_n (k := 0) dX2_forgetAll_0 rfl rfl ?_
  refine a_iconst dX2_forgetAll_1 (by decide) ?_
  refine p_X2_28 rfl dX2_forgetAll_2 (St_ho hg St_76) (FX_put hg St_76 rfl) ?_
  exact a_ret dX2_forgetAll_5 rfl (Nat.le_of_ble_eq_true rfl) (Nat.le_of_ble_eq_true rfl) h
theorem m_X2_remember {G : GT} (hg : gx G = FX) {n : Nat} {μ : Mem} {Q : Nat → Mem → Prop} {v1 : Int} (o1 : St v1 7 5) (h : (CR G Y_X2_slotAt [.inr 76, .inl (μ 76 2)] n μ (fun (x1 : Int) (n2 : Nat) (μ3 : Mem) => (St x1 7 5) ∧ (CV G Y_X7_copyFrom [.inr x1, .inr v1] n2 μ3 (fun (n6 : Nat) (μ7 : Mem) => ((inR ((μ7 76 2) + 1)) ∧ (((0 : Int) ≤ (μ7 76 2) + 1) ∧ ((inR (((up μ7 76 2 (((μ7 76 2) + 1) % 8)) 76 3) + 1)) ∧ (Q n6 (up (up μ7 76 2 (((μ7 76 2) + 1) % 8)) 76 3 (if 8 < ((up μ7 76 2 (((μ7 76 2) + 1) % 8)) 76 3) + 1 then 8 else ((up μ7 76 2 (((μ7 76 2) + 1) % 8)) 76 3) + 1))))))))))) : CV G Y_X2_remember [.inr 76, .inr v1] n μ Q := by
  refine e_V (by decide) (Nat.le_of_ble_eq_true rfl) ?_
  show Wa G Y_X2_remember (ZV G Y_X2_remember Q) 0 0 n μ 0 [(0, .inr 76), (1, .inr v1)] []
  refine a_aload_n (k := 0) dX2_remember_0 rfl rfl ?_
  refine a_aload_n (k := 0) dX2_remember_1 rfl rfl ?_
  refine g_X2_24 rfl dX2_remember_2 (St_ho hg St_76) ?_
  refine k_X2_31 rfl dX2_remember_5 (Nat.le_of_ble_eq_true rfl) rfl (Nat.le_of_ble_eq_true rfl) (Nat.le_of_ble_eq_true rfl) (St_ho hg St_76) h (fun x1 n2 μ3 _ h => ?_)
  obtain ⟨q4, h⟩ := h
  refine a_aload_n (k := 1) dX2_remember_8 rfl rfl ?_
  refine k_X2_35 rfl dX2_remember_9 (Nat.le_of_ble_eq_true rfl) rfl (Nat.le_of_ble_eq_true rfl) (Nat.le_of_ble_eq_true rfl) (St_ho hg q4) h (fun n6 μ7 h => ?_)
  refine a_aload_n (k := 0) dX2_remember_12 rfl rfl ?_
  refine a_aload_n (k := 0) dX2_remember_13 rfl rfl ?_
  refine g_X2_24 rfl dX2_remember_14 (St_ho hg St_76) ?_
  refine a_iconst dX2_remember_17 (by decide) ?_
  obtain ⟨q8, h⟩ := h
  refine a_iadd dX2_remember_18 q8 ?_
  refine a_bipush dX2_remember_19 (by decide) (by decide) ?_
  obtain ⟨q9, h⟩ := h
  refine a_irem dX2_remember_21 q9 (by decide) ?_
  refine p_X2_24 rfl dX2_remember_22 (St_ho hg St_76) (FX_put hg St_76 rfl) ?_
  refine a_aload_n (k := 0) dX2_remember_25 rfl rfl ?_
  refine a_aload_n (k := 0) dX2_remember_26 rfl rfl ?_
  refine g_X2_28 rfl dX2_remember_27 (St_ho hg St_76) ?_
  refine a_iconst dX2_remember_30 (by decide) ?_
  obtain ⟨q10, h⟩ := h
  refine a_iadd dX2_remember_31 q10 ?_
  refine a_bipush dX2_remember_32 (by decide) (by decide) ?_
  refine k_X2_39 rfl dX2_remember_34 (Nat.le_of_ble_eq_true rfl) rfl rfl (Nat.le_of_ble_eq_true rfl) (Nat.le_of_ble_eq_true rfl) ?_
  refine p_X2_28 rfl dX2_remember_37 (St_ho hg St_76) (FX_put hg St_76 rfl) ?_
  exact a_ret dX2_remember_40 rfl (Nat.le_of_ble_eq_true rfl) (Nat.le_of_ble_eq_true rfl) h
theorem m_X2_takeBack {G : GT} (hg : gx G = FX) {n : Nat} {μ : Mem} {Q : Nat → Mem → Prop} {v1 : Int} (o1 : St v1 7 5) (h : ((inR ((μ 76 2) + 8)) ∧ ((inR (((μ 76 2) + 8) - 1)) ∧ (((0 : Int) ≤ ((μ 76 2) + 8) - 1) ∧ (CR G Y_X2_slotAt [.inr 76, .inl ((up μ 76 2 ((((μ 76 2) + 8) - 1) % 8)) 76 2)] n (up μ 76 2 ((((μ 76 2) + 8) - 1) % 8)) (fun (x4 : Int) (n5 : Nat) (μ6 : Mem) => (St x4 7 5) ∧ (CV G Y_X7_copyFrom [.inr v1, .inr x4] n5 μ6 (fun (n9 : Nat) (μ10 : Mem) => ((inR ((μ10 76 3) - 1)) ∧ (Q n9 (up μ10 76 3 ((μ10 76 3) - 1)))))))))))) : CV G Y_X2_takeBack [.inr 76, .inr v1] n μ Q := by
  refine e_V (by decide) (Nat.le_of_ble_eq_true rfl) ?_
  show Wa G Y_X2_takeBack (ZV G Y_X2_takeBack Q) 0 0 n μ 0 [(0, .inr 76), (1, .inr v1)] []
  refine a_aload_n (k := 0) dX2_takeBack_0 rfl rfl ?_
  refine a_aload_n (k := 0) dX2_takeBack_1 rfl rfl ?_
  refine g_X2_24 rfl dX2_takeBack_2 (St_ho hg St_76) ?_
  refine a_bipush dX2_takeBack_5 (by decide) (by decide) ?_
  obtain ⟨q1, h⟩ := h
  refine a_iadd dX2_takeBack_7 q1 ?_
  refine a_iconst dX2_takeBack_8 (by decide) ?_
  obtain ⟨q2, h⟩ := h
  refine a_isub dX2_takeBack_9 q2 ?_
  refine a_bipush dX2_takeBack_10 (by decide) (by decide) ?_
  obtain ⟨q3, h⟩ := h
  refine a_irem dX2_takeBack_12 q3 (by decide) ?_
  refine p_X2_24 rfl dX2_takeBack_13 (St_ho hg St_76) (FX_put hg St_76 rfl) ?_
  refine a_aload_n (k := 1) dX2_takeBack_16 rfl rfl ?_
  refine a_aload_n (k := 0) dX2_takeBack_17 rfl rfl ?_
  refine a_aload_n (k := 0) dX2_takeBack_18 rfl rfl ?_
  refine g_X2_24 rfl dX2_takeBack_19 (St_ho hg St_76) ?_
  refine k_X2_31 rfl dX2_takeBack_22 (Nat.le_of_ble_eq_true rfl) rfl (Nat.le_of_ble_eq_true rfl) (Nat.le_of_ble_eq_true rfl) (St_ho hg St_76) h (fun x4 n5 μ6 _ h => ?_)
  obtain ⟨q7, h⟩ := h
  refine k_X2_35 rfl dX2_takeBack_25 (Nat.le_of_ble_eq_true rfl) rfl (Nat.le_of_ble_eq_true rfl) (Nat.le_of_ble_eq_true rfl) (St_ho hg o1) h (fun n9 μ10 h => ?_)
  refine a_aload_n (k := 0) dX2_takeBack_28 rfl rfl ?_
  refine a_dup dX2_takeBack_29 ?_
  refine g_X2_28 rfl dX2_takeBack_30 (St_ho hg St_76) ?_
  refine a_iconst dX2_takeBack_33 (by decide) ?_
  obtain ⟨q11, h⟩ := h
  refine a_isub dX2_takeBack_34 q11 ?_
  refine p_X2_28 rfl dX2_takeBack_35 (St_ho hg St_76) (FX_put hg St_76 rfl) ?_
  exact a_ret dX2_takeBack_38 rfl (Nat.le_of_ble_eq_true rfl) (Nat.le_of_ble_eq_true rfl) h
theorem m_X2_slotAt {G : GT} (hg : gx G = FX) {n : Nat} {μ : Mem} {Q : Int → Nat → Mem → Prop} {v1 : Int}  (h : ((v1 < 0 → (((0 : Int) ≤ 77) ∧ (Q 77 n μ))) ∧ (¬ (v1 < 0) → ((v1 < 8 → (((0 : Int) ≤ v1 ∧ v1 < 8) ∧ ((¬ (106 + 1 + 29 * v1 < 0) → (((0 : Int) ≤ 106 + 1 + 29 * v1) ∧ (Q (106 + 1 + 29 * v1) n μ))) ∧ (106 + 1 + 29 * v1 < 0 → (((0 : Int) ≤ 77) ∧ (Q 77 n μ)))))) ∧ (¬ (v1 < 8) → (((0 : Int) ≤ 77) ∧ (Q 77 n μ))))))) : CR G Y_X2_slotAt [.inr 76, .inl v1] n μ Q := by
  refine e_R (by decide) (Nat.le_of_ble_eq_true rfl) ?_
  show Wa G Y_X2_slotAt (ZR G Y_X2_slotAt Q) 0 0 n μ 0 [(0, .inr 76), (1, .inl v1)] []
  refine a_iload_n (k := 1) dX2_slotAt_0 rfl rfl ?_
  refine a_if_lt (tgt := 13) dX2_slotAt_1 (by decide) (fun c1 => ?_) (fun c1 => ?_)
  · replace h := h.1 c1
    refine a_aload_n (k := 0) dX2_slotAt_13 rfl rfl ?_
    refine gs_X2_14 rfl dX2_slotAt_14 hg St_76 ?_
    obtain ⟨q2, h⟩ := h
    exact a_aret dX2_slotAt_17 rfl (Nat.le_of_ble_eq_true rfl) (Nat.le_of_ble_eq_true rfl) q2 h
  · replace h := h.2 c1
    refine a_iload_n (k := 1) dX2_slotAt_4 rfl rfl ?_
    refine a_aload_n (k := 0) dX2_slotAt_5 rfl rfl ?_
    refine gs_X2_20 rfl dX2_slotAt_6 hg St_76 ?_
    refine a_alen (N := 8) (t0 := 4) dX2_slotAt_9 (by decide) (by decide) rfl (St_ho hg St_106) ?_
    refine a_icmp_lt (tgt := 18) dX2_slotAt_10 (by decide) (fun c3 => ?_) (fun c3 => ?_)
    · replace h := h.1 c3
      refine a_aload_n (k := 0) dX2_slotAt_18 rfl rfl ?_
      refine gs_X2_20 rfl dX2_slotAt_19 hg St_76 ?_
      refine a_iload_n (k := 1) dX2_slotAt_22 rfl rfl ?_
      obtain ⟨q4, h⟩ := h
      refine a_alds24 dX2_slotAt_23 hg St_106 q4.1 q4.2 ?_
      refine b_astore_n (L' := [(0, .inr 76), (1, .inl v1), (2, .inr (106 + 1 + 29 * v1))]) [1, 2, 0] dX2_slotAt_24 rfl (by decide) rfl ?_
      refine a_aload_n (k := 2) dX2_slotAt_25 rfl rfl ?_
      refine a_ifnonnull (tgt := 36) dX2_slotAt_26 (by decide) (fun c5 => ?_) (fun c5 => ?_)
      · replace h := h.1 c5
        refine a_aload_n (k := 2) dX2_slotAt_36 rfl rfl ?_
        obtain ⟨q6, h⟩ := h
        exact a_aret dX2_slotAt_37 rfl (Nat.le_of_ble_eq_true rfl) (Nat.le_of_ble_eq_true rfl) q6 h
      · replace h := h.2 c5
        refine a_aload_n (k := 0) dX2_slotAt_29 rfl rfl ?_
        refine gs_X2_14 rfl dX2_slotAt_30 hg St_76 ?_
        refine a_goto (tgt := 37) dX2_slotAt_33 (by decide) ?_
        obtain ⟨q7, h⟩ := h
        exact a_aret dX2_slotAt_37 rfl (Nat.le_of_ble_eq_true rfl) (Nat.le_of_ble_eq_true rfl) q7 h
    · replace h := h.2 c3
      refine a_aload_n (k := 0) dX2_slotAt_13 rfl rfl ?_
      refine gs_X2_14 rfl dX2_slotAt_14 hg St_76 ?_
      obtain ⟨q8, h⟩ := h
      exact a_aret dX2_slotAt_17 rfl (Nat.le_of_ble_eq_true rfl) (Nat.le_of_ble_eq_true rfl) q8 h
