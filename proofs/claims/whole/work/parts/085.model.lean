-- 085.model: decode rows and blocks (by program, wip/gen)
theorem dX11_meets_0 : decode cX11_meets 0 = .ok (.aload_n 0, 1) := by decide +kernel
theorem dX11_meets_1 : decode cX11_meets 1 = .ok (.iload_n 1, 1) := by decide +kernel
theorem dX11_meets_2 : decode cX11_meets 2 = .ok (.bipush 10, 2) := by decide +kernel
theorem dX11_meets_4 : decode cX11_meets 4 = .ok (.iconst 2, 1) := by decide +kernel
theorem dX11_meets_5 : decode cX11_meets 5 = .ok (.iload_n 2, 1) := by decide +kernel
theorem dX11_meets_6 : decode cX11_meets 6 = .ok (.imul, 1) := by decide +kernel
theorem dX11_meets_7 : decode cX11_meets 7 = .ok (.iadd, 1) := by decide +kernel
theorem dX11_meets_8 : decode cX11_meets 8 = .ok (.invokevirtual 127, 3) := by decide +kernel
theorem dX11_meets_11 : decode cX11_meets 11 = .ok (.istore 5, 2) := by decide +kernel
theorem dX11_meets_13 : decode cX11_meets 13 = .ok (.aload_n 0, 1) := by decide +kernel
theorem dX11_meets_14 : decode cX11_meets 14 = .ok (.iload_n 1, 1) := by decide +kernel
theorem dX11_meets_15 : decode cX11_meets 15 = .ok (.bipush 10, 2) := by decide +kernel
theorem dX11_meets_17 : decode cX11_meets 17 = .ok (.iconst 2, 1) := by decide +kernel
theorem dX11_meets_18 : decode cX11_meets 18 = .ok (.iload_n 2, 1) := by decide +kernel
theorem dX11_meets_19 : decode cX11_meets 19 = .ok (.imul, 1) := by decide +kernel
theorem dX11_meets_20 : decode cX11_meets 20 = .ok (.iadd, 1) := by decide +kernel
theorem dX11_meets_21 : decode cX11_meets 21 = .ok (.iconst 1, 1) := by decide +kernel
theorem dX11_meets_22 : decode cX11_meets 22 = .ok (.iadd, 1) := by decide +kernel
theorem dX11_meets_23 : decode cX11_meets 23 = .ok (.invokevirtual 127, 3) := by decide +kernel
theorem dX11_meets_26 : decode cX11_meets 26 = .ok (.istore 6, 2) := by decide +kernel
theorem dX11_meets_28 : decode cX11_meets 28 = .ok (.aload_n 0, 1) := by decide +kernel
theorem dX11_meets_29 : decode cX11_meets 29 = .ok (.iload_n 3, 1) := by decide +kernel
theorem dX11_meets_30 : decode cX11_meets 30 = .ok (.bipush 10, 2) := by decide +kernel
theorem dX11_meets_32 : decode cX11_meets 32 = .ok (.iconst 2, 1) := by decide +kernel
theorem dX11_meets_33 : decode cX11_meets 33 = .ok (.iload 4, 2) := by decide +kernel
theorem dX11_meets_35 : decode cX11_meets 35 = .ok (.imul, 1) := by decide +kernel
theorem dX11_meets_36 : decode cX11_meets 36 = .ok (.iadd, 1) := by decide +kernel
theorem dX11_meets_37 : decode cX11_meets 37 = .ok (.iconst 1, 1) := by decide +kernel
theorem dX11_meets_38 : decode cX11_meets 38 = .ok (.iadd, 1) := by decide +kernel
theorem dX11_meets_39 : decode cX11_meets 39 = .ok (.invokevirtual 127, 3) := by decide +kernel
theorem dX11_meets_42 : decode cX11_meets 42 = .ok (.istore 7, 2) := by decide +kernel
theorem dX11_meets_44 : decode cX11_meets 44 = .ok (.iload 5, 2) := by decide +kernel
theorem dX11_meets_46 : decode cX11_meets 46 = .ok (.aload_n 0, 1) := by decide +kernel
theorem dX11_meets_47 : decode cX11_meets 47 = .ok (.iload_n 3, 1) := by decide +kernel
theorem dX11_meets_48 : decode cX11_meets 48 = .ok (.bipush 10, 2) := by decide +kernel
theorem dX11_meets_50 : decode cX11_meets 50 = .ok (.iconst 2, 1) := by decide +kernel
theorem dX11_meets_51 : decode cX11_meets 51 = .ok (.iload 4, 2) := by decide +kernel
theorem dX11_meets_53 : decode cX11_meets 53 = .ok (.imul, 1) := by decide +kernel
theorem dX11_meets_54 : decode cX11_meets 54 = .ok (.iadd, 1) := by decide +kernel
theorem dX11_meets_55 : decode cX11_meets 55 = .ok (.invokevirtual 127, 3) := by decide +kernel
theorem dX11_meets_58 : decode cX11_meets 58 = .ok (.if_icmp .ne 47, 3) := by decide +kernel
theorem dX11_meets_61 : decode cX11_meets 61 = .ok (.iload 6, 2) := by decide +kernel
theorem dX11_meets_63 : decode cX11_meets 63 = .ok (.iload 7, 2) := by decide +kernel
theorem dX11_meets_65 : decode cX11_meets 65 = .ok (.aload_n 0, 1) := by decide +kernel
theorem dX11_meets_66 : decode cX11_meets 66 = .ok (.aload_n 0, 1) := by decide +kernel
theorem dX11_meets_67 : decode cX11_meets 67 = .ok (.iload_n 3, 1) := by decide +kernel
theorem dX11_meets_68 : decode cX11_meets 68 = .ok (.iconst 0, 1) := by decide +kernel
theorem dX11_meets_69 : decode cX11_meets 69 = .ok (.invokevirtual 127, 3) := by decide +kernel
theorem dX11_meets_72 : decode cX11_meets 72 = .ok (.iload 5, 2) := by decide +kernel
theorem dX11_meets_74 : decode cX11_meets 74 = .ok (.invokevirtual 131, 3) := by decide +kernel
theorem dX11_meets_77 : decode cX11_meets 77 = .ok (.iadd, 1) := by decide +kernel
theorem dX11_meets_78 : decode cX11_meets 78 = .ok (.if_icmp .ge 27, 3) := by decide +kernel
theorem dX11_meets_81 : decode cX11_meets 81 = .ok (.iload 7, 2) := by decide +kernel
theorem dX11_meets_83 : decode cX11_meets 83 = .ok (.iload 6, 2) := by decide +kernel
theorem dX11_meets_85 : decode cX11_meets 85 = .ok (.aload_n 0, 1) := by decide +kernel
theorem dX11_meets_86 : decode cX11_meets 86 = .ok (.aload_n 0, 1) := by decide +kernel
theorem dX11_meets_87 : decode cX11_meets 87 = .ok (.iload_n 1, 1) := by decide +kernel
theorem dX11_meets_88 : decode cX11_meets 88 = .ok (.iconst 0, 1) := by decide +kernel
theorem dX11_meets_89 : decode cX11_meets 89 = .ok (.invokevirtual 127, 3) := by decide +kernel
theorem dX11_meets_92 : decode cX11_meets 92 = .ok (.iload 5, 2) := by decide +kernel
theorem dX11_meets_94 : decode cX11_meets 94 = .ok (.invokevirtual 131, 3) := by decide +kernel
theorem dX11_meets_97 : decode cX11_meets 97 = .ok (.iadd, 1) := by decide +kernel
theorem dX11_meets_98 : decode cX11_meets 98 = .ok (.if_icmp .ge 7, 3) := by decide +kernel
theorem dX11_meets_101 : decode cX11_meets 101 = .ok (.iconst 1, 1) := by decide +kernel
theorem dX11_meets_102 : decode cX11_meets 102 = .ok (.goto 4, 3) := by decide +kernel
theorem dX11_meets_105 : decode cX11_meets 105 = .ok (.iconst 0, 1) := by decide +kernel
theorem dX11_meets_106 : decode cX11_meets 106 = .ok (.ireturn, 1) := by decide +kernel
theorem dX11_pushesOut_0 : decode cX11_pushesOut 0 = .ok (.iconst 0, 1) := by decide +kernel
theorem dX11_pushesOut_1 : decode cX11_pushesOut 1 = .ok (.istore_n 2, 1) := by decide +kernel
theorem dX11_pushesOut_2 : decode cX11_pushesOut 2 = .ok (.iconst 0, 1) := by decide +kernel
theorem dX11_pushesOut_3 : decode cX11_pushesOut 3 = .ok (.istore_n 3, 1) := by decide +kernel
theorem dX11_pushesOut_4 : decode cX11_pushesOut 4 = .ok (.iload_n 3, 1) := by decide +kernel
theorem dX11_pushesOut_5 : decode cX11_pushesOut 5 = .ok (.aload_n 0, 1) := by decide +kernel
theorem dX11_pushesOut_6 : decode cX11_pushesOut 6 = .ok (.getfield 16, 3) := by decide +kernel
theorem dX11_pushesOut_9 : decode cX11_pushesOut 9 = .ok (.iconst 2, 1) := by decide +kernel
theorem dX11_pushesOut_10 : decode cX11_pushesOut 10 = .ok (.iaload, 1) := by decide +kernel
theorem dX11_pushesOut_11 : decode cX11_pushesOut 11 = .ok (.if_icmp .ge 109, 3) := by decide +kernel
theorem dX11_pushesOut_14 : decode cX11_pushesOut 14 = .ok (.iconst 0, 1) := by decide +kernel
theorem dX11_pushesOut_15 : decode cX11_pushesOut 15 = .ok (.istore 4, 2) := by decide +kernel
theorem dX11_pushesOut_17 : decode cX11_pushesOut 17 = .ok (.iconst 0, 1) := by decide +kernel
theorem dX11_pushesOut_18 : decode cX11_pushesOut 18 = .ok (.istore 5, 2) := by decide +kernel
theorem dX11_pushesOut_20 : decode cX11_pushesOut 20 = .ok (.iload 5, 2) := by decide +kernel
theorem dX11_pushesOut_22 : decode cX11_pushesOut 22 = .ok (.aload_n 0, 1) := by decide +kernel
theorem dX11_pushesOut_23 : decode cX11_pushesOut 23 = .ok (.iload_n 1, 1) := by decide +kernel
theorem dX11_pushesOut_24 : decode cX11_pushesOut 24 = .ok (.bipush 9, 2) := by decide +kernel
theorem dX11_pushesOut_26 : decode cX11_pushesOut 26 = .ok (.invokevirtual 127, 3) := by decide +kernel
theorem dX11_pushesOut_29 : decode cX11_pushesOut 29 = .ok (.if_icmp .ge 70, 3) := by decide +kernel
theorem dX11_pushesOut_32 : decode cX11_pushesOut 32 = .ok (.aload_n 0, 1) := by decide +kernel
theorem dX11_pushesOut_33 : decode cX11_pushesOut 33 = .ok (.iload_n 3, 1) := by decide +kernel
theorem dX11_pushesOut_34 : decode cX11_pushesOut 34 = .ok (.iconst 3, 1) := by decide +kernel
theorem dX11_pushesOut_35 : decode cX11_pushesOut 35 = .ok (.invokevirtual 127, 3) := by decide +kernel
theorem dX11_pushesOut_38 : decode cX11_pushesOut 38 = .ok (.aload_n 0, 1) := by decide +kernel
theorem dX11_pushesOut_39 : decode cX11_pushesOut 39 = .ok (.iload_n 1, 1) := by decide +kernel
theorem dX11_pushesOut_40 : decode cX11_pushesOut 40 = .ok (.iconst 3, 1) := by decide +kernel
theorem dX11_pushesOut_41 : decode cX11_pushesOut 41 = .ok (.invokevirtual 127, 3) := by decide +kernel
theorem dX11_pushesOut_44 : decode cX11_pushesOut 44 = .ok (.if_icmp .ge 55, 3) := by decide +kernel
theorem dX11_pushesOut_47 : decode cX11_pushesOut 47 = .ok (.iconst 0, 1) := by decide +kernel
theorem dX11_pushesOut_48 : decode cX11_pushesOut 48 = .ok (.istore 6, 2) := by decide +kernel
theorem dX11_pushesOut_50 : decode cX11_pushesOut 50 = .ok (.iload 6, 2) := by decide +kernel
theorem dX11_pushesOut_52 : decode cX11_pushesOut 52 = .ok (.aload_n 0, 1) := by decide +kernel
theorem dX11_pushesOut_53 : decode cX11_pushesOut 53 = .ok (.iload_n 3, 1) := by decide +kernel
theorem dX11_pushesOut_54 : decode cX11_pushesOut 54 = .ok (.bipush 9, 2) := by decide +kernel
theorem dX11_pushesOut_56 : decode cX11_pushesOut 56 = .ok (.invokevirtual 127, 3) := by decide +kernel
theorem dX11_pushesOut_59 : decode cX11_pushesOut 59 = .ok (.if_icmp .ge 34, 3) := by decide +kernel
theorem dX11_pushesOut_62 : decode cX11_pushesOut 62 = .ok (.iload 4, 2) := by decide +kernel
theorem dX11_pushesOut_64 : decode cX11_pushesOut 64 = .ok (.ifCond .ne 16, 3) := by decide +kernel
theorem dX11_pushesOut_67 : decode cX11_pushesOut 67 = .ok (.aload_n 0, 1) := by decide +kernel
theorem dX11_pushesOut_68 : decode cX11_pushesOut 68 = .ok (.iload_n 1, 1) := by decide +kernel
theorem dX11_pushesOut_69 : decode cX11_pushesOut 69 = .ok (.iload 5, 2) := by decide +kernel
theorem dX11_pushesOut_71 : decode cX11_pushesOut 71 = .ok (.iload_n 3, 1) := by decide +kernel
theorem dX11_pushesOut_72 : decode cX11_pushesOut 72 = .ok (.iload 6, 2) := by decide +kernel
theorem dX11_pushesOut_74 : decode cX11_pushesOut 74 = .ok (.invokevirtual 168, 3) := by decide +kernel
theorem dX11_pushesOut_77 : decode cX11_pushesOut 77 = .ok (.ifCond .eq 7, 3) := by decide +kernel
theorem dX11_pushesOut_80 : decode cX11_pushesOut 80 = .ok (.iconst 1, 1) := by decide +kernel
theorem dX11_pushesOut_81 : decode cX11_pushesOut 81 = .ok (.goto 4, 3) := by decide +kernel
theorem dX11_pushesOut_84 : decode cX11_pushesOut 84 = .ok (.iconst 0, 1) := by decide +kernel
theorem dX11_pushesOut_85 : decode cX11_pushesOut 85 = .ok (.istore 4, 2) := by decide +kernel
theorem dX11_pushesOut_87 : decode cX11_pushesOut 87 = .ok (.iinc 6 1, 3) := by decide +kernel
theorem dX11_pushesOut_90 : decode cX11_pushesOut 90 = .ok (.goto (-40), 3) := by decide +kernel
theorem dX11_pushesOut_93 : decode cX11_pushesOut 93 = .ok (.iinc 5 1, 3) := by decide +kernel
theorem dX11_pushesOut_96 : decode cX11_pushesOut 96 = .ok (.goto (-76), 3) := by decide +kernel
theorem dX11_pushesOut_99 : decode cX11_pushesOut 99 = .ok (.iload_n 2, 1) := by decide +kernel
theorem dX11_pushesOut_100 : decode cX11_pushesOut 100 = .ok (.iload 4, 2) := by decide +kernel
theorem dX11_pushesOut_102 : decode cX11_pushesOut 102 = .ok (.ifCond .eq 9, 3) := by decide +kernel
theorem dX11_pushesOut_105 : decode cX11_pushesOut 105 = .ok (.iconst 1, 1) := by decide +kernel
theorem dX11_pushesOut_106 : decode cX11_pushesOut 106 = .ok (.iload_n 3, 1) := by decide +kernel
theorem dX11_pushesOut_107 : decode cX11_pushesOut 107 = .ok (.ishl, 1) := by decide +kernel
theorem dX11_pushesOut_108 : decode cX11_pushesOut 108 = .ok (.goto 4, 3) := by decide +kernel
theorem dX11_pushesOut_111 : decode cX11_pushesOut 111 = .ok (.iconst 0, 1) := by decide +kernel
theorem dX11_pushesOut_112 : decode cX11_pushesOut 112 = .ok (.ior, 1) := by decide +kernel
theorem dX11_pushesOut_113 : decode cX11_pushesOut 113 = .ok (.istore_n 2, 1) := by decide +kernel
theorem dX11_pushesOut_114 : decode cX11_pushesOut 114 = .ok (.iinc 3 1, 3) := by decide +kernel
theorem dX11_pushesOut_117 : decode cX11_pushesOut 117 = .ok (.goto (-113), 3) := by decide +kernel
theorem dX11_pushesOut_120 : decode cX11_pushesOut 120 = .ok (.iconst 0, 1) := by decide +kernel
theorem dX11_pushesOut_121 : decode cX11_pushesOut 121 = .ok (.istore_n 3, 1) := by decide +kernel
theorem dX11_pushesOut_122 : decode cX11_pushesOut 122 = .ok (.iload_n 3, 1) := by decide +kernel
theorem dX11_pushesOut_123 : decode cX11_pushesOut 123 = .ok (.aload_n 0, 1) := by decide +kernel
theorem dX11_pushesOut_124 : decode cX11_pushesOut 124 = .ok (.getfield 16, 3) := by decide +kernel
theorem dX11_pushesOut_127 : decode cX11_pushesOut 127 = .ok (.iconst 2, 1) := by decide +kernel
theorem dX11_pushesOut_128 : decode cX11_pushesOut 128 = .ok (.iaload, 1) := by decide +kernel
theorem dX11_pushesOut_129 : decode cX11_pushesOut 129 = .ok (.if_icmp .ge 22, 3) := by decide +kernel
theorem dX11_pushesOut_132 : decode cX11_pushesOut 132 = .ok (.iload_n 2, 1) := by decide +kernel
theorem dX11_pushesOut_133 : decode cX11_pushesOut 133 = .ok (.iload_n 3, 1) := by decide +kernel
theorem dX11_pushesOut_134 : decode cX11_pushesOut 134 = .ok (.invokestatic 172, 3) := by decide +kernel
theorem dX11_pushesOut_137 : decode cX11_pushesOut 137 = .ok (.ifCond .eq 8, 3) := by decide +kernel
theorem dX11_pushesOut_140 : decode cX11_pushesOut 140 = .ok (.aload_n 0, 1) := by decide +kernel
theorem dX11_pushesOut_141 : decode cX11_pushesOut 141 = .ok (.iload_n 3, 1) := by decide +kernel
theorem dX11_pushesOut_142 : decode cX11_pushesOut 142 = .ok (.invokevirtual 176, 3) := by decide +kernel
theorem dX11_pushesOut_145 : decode cX11_pushesOut 145 = .ok (.iinc 3 1, 3) := by decide +kernel
theorem dX11_pushesOut_148 : decode cX11_pushesOut 148 = .ok (.goto (-26), 3) := by decide +kernel
theorem dX11_pushesOut_151 : decode cX11_pushesOut 151 = .ok (.iload_n 2, 1) := by decide +kernel
theorem dX11_pushesOut_152 : decode cX11_pushesOut 152 = .ok (.ireturn, 1) := by decide +kernel
theorem dX11_plans_0 : decode cX11_plans 0 = .ok (.aload_n 0, 1) := by decide +kernel
theorem dX11_plans_1 : decode cX11_plans 1 = .ok (.iload_n 1, 1) := by decide +kernel
theorem dX11_plans_2 : decode cX11_plans 2 = .ok (.invokevirtual 176, 3) := by decide +kernel
theorem dX11_plans_5 : decode cX11_plans 5 = .ok (.aload_n 0, 1) := by decide +kernel
theorem dX11_plans_6 : decode cX11_plans 6 = .ok (.iload_n 1, 1) := by decide +kernel
theorem dX11_plans_7 : decode cX11_plans 7 = .ok (.invokevirtual 140, 3) := by decide +kernel
theorem dX11_plans_10 : decode cX11_plans 10 = .ok (.istore_n 2, 1) := by decide +kernel
theorem dX11_plans_11 : decode cX11_plans 11 = .ok (.iload_n 2, 1) := by decide +kernel
theorem dX11_plans_12 : decode cX11_plans 12 = .ok (.iconst 2, 1) := by decide +kernel
theorem dX11_plans_13 : decode cX11_plans 13 = .ok (.if_icmp .eq 13, 3) := by decide +kernel
theorem dX11_plans_16 : decode cX11_plans 16 = .ok (.iload_n 2, 1) := by decide +kernel
theorem dX11_plans_17 : decode cX11_plans 17 = .ok (.iconst 4, 1) := by decide +kernel
theorem dX11_plans_18 : decode cX11_plans 18 = .ok (.if_icmp .eq 8, 3) := by decide +kernel
theorem dX11_plans_21 : decode cX11_plans 21 = .ok (.iload_n 2, 1) := by decide +kernel
theorem dX11_plans_22 : decode cX11_plans 22 = .ok (.iconst 3, 1) := by decide +kernel
theorem dX11_plans_23 : decode cX11_plans 23 = .ok (.if_icmp .ne 5, 3) := by decide +kernel
theorem dX11_plans_26 : decode cX11_plans 26 = .ok (.iconst 0, 1) := by decide +kernel
theorem dX11_plans_27 : decode cX11_plans 27 = .ok (.ireturn, 1) := by decide +kernel
theorem dX11_plans_28 : decode cX11_plans 28 = .ok (.aload_n 0, 1) := by decide +kernel
theorem dX11_plans_29 : decode cX11_plans 29 = .ok (.iload_n 1, 1) := by decide +kernel
theorem dX11_plans_30 : decode cX11_plans 30 = .ok (.invokevirtual 134, 3) := by decide +kernel
theorem dX11_plans_33 : decode cX11_plans 33 = .ok (.ifCond .eq 23, 3) := by decide +kernel
theorem dX11_plans_36 : decode cX11_plans 36 = .ok (.aload_n 0, 1) := by decide +kernel
theorem dX11_plans_37 : decode cX11_plans 37 = .ok (.getfield 7, 3) := by decide +kernel
theorem dX11_plans_40 : decode cX11_plans 40 = .ok (.bipush 6, 2) := by decide +kernel
theorem dX11_plans_42 : decode cX11_plans 42 = .ok (.aload_n 0, 1) := by decide +kernel
theorem dX11_plans_43 : decode cX11_plans 43 = .ok (.iload_n 1, 1) := by decide +kernel
theorem dX11_plans_44 : decode cX11_plans 44 = .ok (.bipush 7, 2) := by decide +kernel
theorem dX11_plans_46 : decode cX11_plans 46 = .ok (.invokevirtual 127, 3) := by decide +kernel
theorem dX11_plans_49 : decode cX11_plans 49 = .ok (.imul, 1) := by decide +kernel
theorem dX11_plans_50 : decode cX11_plans 50 = .ok (.iconst 1, 1) := by decide +kernel
theorem dX11_plans_51 : decode cX11_plans 51 = .ok (.iadd, 1) := by decide +kernel
theorem dX11_plans_52 : decode cX11_plans 52 = .ok (.iaload, 1) := by decide +kernel
theorem dX11_plans_53 : decode cX11_plans 53 = .ok (.goto 9, 3) := by decide +kernel
theorem dX11_plans_56 : decode cX11_plans 56 = .ok (.aload_n 0, 1) := by decide +kernel
theorem dX11_plans_57 : decode cX11_plans 57 = .ok (.iload_n 1, 1) := by decide +kernel
theorem dX11_plans_58 : decode cX11_plans 58 = .ok (.iconst 4, 1) := by decide +kernel
theorem dX11_plans_59 : decode cX11_plans 59 = .ok (.invokevirtual 127, 3) := by decide +kernel
theorem dX11_plans_62 : decode cX11_plans 62 = .ok (.istore_n 3, 1) := by decide +kernel
theorem dX11_plans_63 : decode cX11_plans 63 = .ok (.aload_n 0, 1) := by decide +kernel
theorem dX11_plans_64 : decode cX11_plans 64 = .ok (.iload_n 1, 1) := by decide +kernel
theorem dX11_plans_65 : decode cX11_plans 65 = .ok (.invokevirtual 134, 3) := by decide +kernel
theorem dX11_plans_68 : decode cX11_plans 68 = .ok (.ifCond .eq 25, 3) := by decide +kernel
theorem dX11_plans_71 : decode cX11_plans 71 = .ok (.aload_n 0, 1) := by decide +kernel
theorem dX11_plans_72 : decode cX11_plans 72 = .ok (.iload_n 1, 1) := by decide +kernel
theorem dX11_plans_73 : decode cX11_plans 73 = .ok (.aload_n 0, 1) := by decide +kernel
theorem dX11_plans_74 : decode cX11_plans 74 = .ok (.iload_n 1, 1) := by decide +kernel
theorem dX11_plans_75 : decode cX11_plans 75 = .ok (.bipush 7, 2) := by decide +kernel
theorem dX11_plans_77 : decode cX11_plans 77 = .ok (.invokevirtual 127, 3) := by decide +kernel
theorem dX11_plans_80 : decode cX11_plans 80 = .ok (.aload_n 0, 1) := by decide +kernel
theorem dX11_plans_81 : decode cX11_plans 81 = .ok (.iload_n 1, 1) := by decide +kernel
theorem dX11_plans_82 : decode cX11_plans 82 = .ok (.bipush 8, 2) := by decide +kernel
theorem dX11_plans_84 : decode cX11_plans 84 = .ok (.invokevirtual 127, 3) := by decide +kernel
theorem dX11_plans_87 : decode cX11_plans 87 = .ok (.invokevirtual 180, 3) := by decide +kernel
theorem dX11_plans_90 : decode cX11_plans 90 = .ok (.goto 9, 3) := by decide +kernel
theorem dX11_plans_93 : decode cX11_plans 93 = .ok (.aload_n 0, 1) := by decide +kernel
theorem dX11_plans_94 : decode cX11_plans 94 = .ok (.getfield 16, 3) := by decide +kernel
theorem dX11_plans_97 : decode cX11_plans 97 = .ok (.iconst 0, 1) := by decide +kernel
theorem dX11_plans_98 : decode cX11_plans 98 = .ok (.iaload, 1) := by decide +kernel
theorem dX11_plans_99 : decode cX11_plans 99 = .ok (.istore 4, 2) := by decide +kernel
theorem dX11_plans_101 : decode cX11_plans 101 = .ok (.iload_n 3, 1) := by decide +kernel
theorem dX11_plans_102 : decode cX11_plans 102 = .ok (.aload_n 0, 1) := by decide +kernel
theorem dX11_plans_103 : decode cX11_plans 103 = .ok (.iload_n 1, 1) := by decide +kernel
theorem dX11_plans_104 : decode cX11_plans 104 = .ok (.iconst 1, 1) := by decide +kernel
theorem dX11_plans_105 : decode cX11_plans 105 = .ok (.invokevirtual 127, 3) := by decide +kernel
theorem dX11_plans_108 : decode cX11_plans 108 = .ok (.if_icmp .ne 5, 3) := by decide +kernel
theorem dX11_plans_111 : decode cX11_plans 111 = .ok (.iconst 0, 1) := by decide +kernel
theorem dX11_plans_112 : decode cX11_plans 112 = .ok (.ireturn, 1) := by decide +kernel
theorem dX11_plans_113 : decode cX11_plans 113 = .ok (.aload_n 0, 1) := by decide +kernel
theorem dX11_plans_114 : decode cX11_plans 114 = .ok (.iload_n 1, 1) := by decide +kernel
theorem dX11_plans_115 : decode cX11_plans 115 = .ok (.aload_n 0, 1) := by decide +kernel
theorem dX11_plans_116 : decode cX11_plans 116 = .ok (.iload_n 1, 1) := by decide +kernel
theorem dX11_plans_117 : decode cX11_plans 117 = .ok (.iconst 3, 1) := by decide +kernel
theorem dX11_plans_118 : decode cX11_plans 118 = .ok (.invokevirtual 127, 3) := by decide +kernel
theorem dX11_plans_121 : decode cX11_plans 121 = .ok (.invokevirtual 183, 3) := by decide +kernel
theorem dX11_plans_124 : decode cX11_plans 124 = .ok (.aload_n 0, 1) := by decide +kernel
theorem dX11_plans_125 : decode cX11_plans 125 = .ok (.aload_n 0, 1) := by decide +kernel
theorem dX11_plans_126 : decode cX11_plans 126 = .ok (.iload_n 1, 1) := by decide +kernel
theorem dX11_plans_127 : decode cX11_plans 127 = .ok (.iconst 0, 1) := by decide +kernel
theorem dX11_plans_128 : decode cX11_plans 128 = .ok (.invokevirtual 127, 3) := by decide +kernel
theorem dX11_plans_131 : decode cX11_plans 131 = .ok (.iload_n 3, 1) := by decide +kernel
theorem dX11_plans_132 : decode cX11_plans 132 = .ok (.iload 4, 2) := by decide +kernel
theorem dX11_plans_134 : decode cX11_plans 134 = .ok (.aload_n 0, 1) := by decide +kernel
theorem dX11_plans_135 : decode cX11_plans 135 = .ok (.iload_n 1, 1) := by decide +kernel
theorem dX11_plans_136 : decode cX11_plans 136 = .ok (.iconst 1, 1) := by decide +kernel
theorem dX11_plans_137 : decode cX11_plans 137 = .ok (.invokevirtual 127, 3) := by decide +kernel
theorem dX11_plans_140 : decode cX11_plans 140 = .ok (.bipush (-9), 2) := by decide +kernel
theorem dX11_plans_142 : decode cX11_plans 142 = .ok (.invokevirtual 187, 3) := by decide +kernel
theorem dX11_plans_145 : decode cX11_plans 145 = .ok (.istore 5, 2) := by decide +kernel
theorem dX11_plans_147 : decode cX11_plans 147 = .ok (.aload_n 0, 1) := by decide +kernel
theorem dX11_plans_148 : decode cX11_plans 148 = .ok (.getfield 16, 3) := by decide +kernel
theorem dX11_plans_151 : decode cX11_plans 151 = .ok (.iload_n 1, 1) := by decide +kernel
theorem dX11_plans_152 : decode cX11_plans 152 = .ok (.invokestatic 123, 3) := by decide +kernel
theorem dX11_plans_155 : decode cX11_plans 155 = .ok (.bipush 6, 2) := by decide +kernel
theorem dX11_plans_157 : decode cX11_plans 157 = .ok (.iadd, 1) := by decide +kernel
theorem dX11_plans_158 : decode cX11_plans 158 = .ok (.iload 5, 2) := by decide +kernel
theorem dX11_plans_160 : decode cX11_plans 160 = .ok (.ifCond .eq 7, 3) := by decide +kernel
theorem dX11_plans_163 : decode cX11_plans 163 = .ok (.iconst 1, 1) := by decide +kernel
theorem dX11_plans_164 : decode cX11_plans 164 = .ok (.goto 4, 3) := by decide +kernel
theorem dX11_plans_167 : decode cX11_plans 167 = .ok (.iconst 0, 1) := by decide +kernel
theorem dX11_plans_168 : decode cX11_plans 168 = .ok (.iastore, 1) := by decide +kernel
theorem dX11_plans_169 : decode cX11_plans 169 = .ok (.iload 5, 2) := by decide +kernel
theorem dX11_plans_171 : decode cX11_plans 171 = .ok (.ifCond .eq 16, 3) := by decide +kernel
theorem dX11_plans_174 : decode cX11_plans 174 = .ok (.aload_n 0, 1) := by decide +kernel
theorem dX11_plans_175 : decode cX11_plans 175 = .ok (.getfield 158, 3) := by decide +kernel
theorem dX11_plans_178 : decode cX11_plans 178 = .ok (.aload_n 0, 1) := by decide +kernel
theorem dX11_plans_179 : decode cX11_plans 179 = .ok (.iload_n 1, 1) := by decide +kernel
theorem dX11_plans_180 : decode cX11_plans 180 = .ok (.iconst 2, 1) := by decide +kernel
theorem dX11_plans_181 : decode cX11_plans 181 = .ok (.invokevirtual 127, 3) := by decide +kernel
theorem dX11_plans_184 : decode cX11_plans 184 = .ok (.if_icmp .le 5, 3) := by decide +kernel
theorem dX11_plans_187 : decode cX11_plans 187 = .ok (.iconst 0, 1) := by decide +kernel
theorem dX11_plans_188 : decode cX11_plans 188 = .ok (.ireturn, 1) := by decide +kernel
theorem dX11_plans_189 : decode cX11_plans 189 = .ok (.aload_n 0, 1) := by decide +kernel
theorem dX11_plans_190 : decode cX11_plans 190 = .ok (.aload_n 0, 1) := by decide +kernel
theorem dX11_plans_191 : decode cX11_plans 191 = .ok (.iload_n 1, 1) := by decide +kernel
theorem dX11_plans_192 : decode cX11_plans 192 = .ok (.iconst 0, 1) := by decide +kernel
theorem dX11_plans_193 : decode cX11_plans 193 = .ok (.invokevirtual 127, 3) := by decide +kernel
theorem dX11_plans_196 : decode cX11_plans 196 = .ok (.iload_n 3, 1) := by decide +kernel
theorem dX11_plans_197 : decode cX11_plans 197 = .ok (.iload 4, 2) := by decide +kernel
theorem dX11_plans_199 : decode cX11_plans 199 = .ok (.aload_n 0, 1) := by decide +kernel
theorem dX11_plans_200 : decode cX11_plans 200 = .ok (.iload_n 1, 1) := by decide +kernel
theorem dX11_plans_201 : decode cX11_plans 201 = .ok (.iconst 1, 1) := by decide +kernel
theorem dX11_plans_202 : decode cX11_plans 202 = .ok (.invokevirtual 127, 3) := by decide +kernel
theorem dX11_plans_205 : decode cX11_plans 205 = .ok (.invokevirtual 191, 3) := by decide +kernel
theorem dX11_plans_208 : decode cX11_plans 208 = .ok (.iconst 0, 1) := by decide +kernel
theorem dX11_plans_209 : decode cX11_plans 209 = .ok (.istore 6, 2) := by decide +kernel
theorem dX11_plans_211 : decode cX11_plans 211 = .ok (.iload 6, 2) := by decide +kernel
theorem dX11_plans_213 : decode cX11_plans 213 = .ok (.aload_n 0, 1) := by decide +kernel
theorem dX11_plans_214 : decode cX11_plans 214 = .ok (.getfield 161, 3) := by decide +kernel
theorem dX11_plans_217 : decode cX11_plans 217 = .ok (.if_icmp .ge 59, 3) := by decide +kernel
theorem dX11_plans_220 : decode cX11_plans 220 = .ok (.aload_n 0, 1) := by decide +kernel
theorem dX11_plans_221 : decode cX11_plans 221 = .ok (.getfield 16, 3) := by decide +kernel
theorem dX11_plans_224 : decode cX11_plans 224 = .ok (.iload_n 1, 1) := by decide +kernel
theorem dX11_plans_225 : decode cX11_plans 225 = .ok (.invokestatic 123, 3) := by decide +kernel
theorem dX11_plans_228 : decode cX11_plans 228 = .ok (.bipush 10, 2) := by decide +kernel
theorem dX11_plans_230 : decode cX11_plans 230 = .ok (.iadd, 1) := by decide +kernel
theorem dX11_plans_231 : decode cX11_plans 231 = .ok (.iconst 2, 1) := by decide +kernel
theorem dX11_plans_232 : decode cX11_plans 232 = .ok (.iload 6, 2) := by decide +kernel
theorem dX11_plans_234 : decode cX11_plans 234 = .ok (.imul, 1) := by decide +kernel
theorem dX11_plans_235 : decode cX11_plans 235 = .ok (.iadd, 1) := by decide +kernel
theorem dX11_plans_236 : decode cX11_plans 236 = .ok (.aload_n 0, 1) := by decide +kernel
theorem dX11_plans_237 : decode cX11_plans 237 = .ok (.getfield 50, 3) := by decide +kernel
theorem dX11_plans_240 : decode cX11_plans 240 = .ok (.iload 6, 2) := by decide +kernel
theorem dX11_plans_242 : decode cX11_plans 242 = .ok (.iaload, 1) := by decide +kernel
theorem dX11_plans_243 : decode cX11_plans 243 = .ok (.iastore, 1) := by decide +kernel
theorem dX11_plans_244 : decode cX11_plans 244 = .ok (.aload_n 0, 1) := by decide +kernel
theorem dX11_plans_245 : decode cX11_plans 245 = .ok (.getfield 16, 3) := by decide +kernel
theorem dX11_plans_248 : decode cX11_plans 248 = .ok (.iload_n 1, 1) := by decide +kernel
theorem dX11_plans_249 : decode cX11_plans 249 = .ok (.invokestatic 123, 3) := by decide +kernel
theorem dX11_plans_252 : decode cX11_plans 252 = .ok (.bipush 10, 2) := by decide +kernel
theorem dX11_plans_254 : decode cX11_plans 254 = .ok (.iadd, 1) := by decide +kernel
theorem dX11_plans_255 : decode cX11_plans 255 = .ok (.iconst 2, 1) := by decide +kernel
theorem dX11_plans_256 : decode cX11_plans 256 = .ok (.iload 6, 2) := by decide +kernel
theorem dX11_plans_258 : decode cX11_plans 258 = .ok (.imul, 1) := by decide +kernel
theorem dX11_plans_259 : decode cX11_plans 259 = .ok (.iadd, 1) := by decide +kernel
theorem dX11_plans_260 : decode cX11_plans 260 = .ok (.iconst 1, 1) := by decide +kernel
theorem dX11_plans_261 : decode cX11_plans 261 = .ok (.iadd, 1) := by decide +kernel
theorem dX11_plans_262 : decode cX11_plans 262 = .ok (.aload_n 0, 1) := by decide +kernel
theorem dX11_plans_263 : decode cX11_plans 263 = .ok (.getfield 53, 3) := by decide +kernel
theorem dX11_plans_266 : decode cX11_plans 266 = .ok (.iload 6, 2) := by decide +kernel
theorem dX11_plans_268 : decode cX11_plans 268 = .ok (.iaload, 1) := by decide +kernel
theorem dX11_plans_269 : decode cX11_plans 269 = .ok (.iastore, 1) := by decide +kernel
theorem dX11_plans_270 : decode cX11_plans 270 = .ok (.iinc 6 1, 3) := by decide +kernel
theorem dX11_plans_273 : decode cX11_plans 273 = .ok (.goto (-62), 3) := by decide +kernel
theorem dX11_plans_276 : decode cX11_plans 276 = .ok (.aload_n 0, 1) := by decide +kernel
theorem dX11_plans_277 : decode cX11_plans 277 = .ok (.getfield 16, 3) := by decide +kernel
theorem dX11_plans_280 : decode cX11_plans 280 = .ok (.iload_n 1, 1) := by decide +kernel
theorem dX11_plans_281 : decode cX11_plans 281 = .ok (.invokestatic 123, 3) := by decide +kernel
theorem dX11_plans_284 : decode cX11_plans 284 = .ok (.bipush 9, 2) := by decide +kernel
theorem dX11_plans_286 : decode cX11_plans 286 = .ok (.iadd, 1) := by decide +kernel
theorem dX11_plans_287 : decode cX11_plans 287 = .ok (.aload_n 0, 1) := by decide +kernel
theorem dX11_plans_288 : decode cX11_plans 288 = .ok (.getfield 161, 3) := by decide +kernel
theorem dX11_plans_291 : decode cX11_plans 291 = .ok (.iastore, 1) := by decide +kernel
theorem dX11_plans_292 : decode cX11_plans 292 = .ok (.aload_n 0, 1) := by decide +kernel
theorem dX11_plans_293 : decode cX11_plans 293 = .ok (.iload_n 1, 1) := by decide +kernel
theorem dX11_plans_294 : decode cX11_plans 294 = .ok (.invokevirtual 195, 3) := by decide +kernel
theorem dX11_plans_297 : decode cX11_plans 297 = .ok (.ireturn, 1) := by decide +kernel
theorem dX11_plansAll_0 : decode cX11_plansAll 0 = .ok (.iload_n 1, 1) := by decide +kernel
theorem dX11_plansAll_1 : decode cX11_plansAll 1 = .ok (.istore_n 2, 1) := by decide +kernel
theorem dX11_plansAll_2 : decode cX11_plansAll 2 = .ok (.iload_n 2, 1) := by decide +kernel
theorem dX11_plansAll_3 : decode cX11_plansAll 3 = .ok (.ifCond .eq 83, 3) := by decide +kernel
theorem dX11_plansAll_6 : decode cX11_plansAll 6 = .ok (.bipush (-9), 2) := by decide +kernel
theorem dX11_plansAll_8 : decode cX11_plansAll 8 = .ok (.istore_n 3, 1) := by decide +kernel
theorem dX11_plansAll_9 : decode cX11_plansAll 9 = .ok (.iconst 0, 1) := by decide +kernel
theorem dX11_plansAll_10 : decode cX11_plansAll 10 = .ok (.istore 4, 2) := by decide +kernel
theorem dX11_plansAll_12 : decode cX11_plansAll 12 = .ok (.iload 4, 2) := by decide +kernel
theorem dX11_plansAll_14 : decode cX11_plansAll 14 = .ok (.aload_n 0, 1) := by decide +kernel
theorem dX11_plansAll_15 : decode cX11_plansAll 15 = .ok (.getfield 16, 3) := by decide +kernel
theorem dX11_plansAll_18 : decode cX11_plansAll 18 = .ok (.iconst 2, 1) := by decide +kernel
theorem dX11_plansAll_19 : decode cX11_plansAll 19 = .ok (.iaload, 1) := by decide +kernel
theorem dX11_plansAll_20 : decode cX11_plansAll 20 = .ok (.if_icmp .ge 47, 3) := by decide +kernel
theorem dX11_plansAll_23 : decode cX11_plansAll 23 = .ok (.iload_n 2, 1) := by decide +kernel
theorem dX11_plansAll_24 : decode cX11_plansAll 24 = .ok (.iload 4, 2) := by decide +kernel
theorem dX11_plansAll_26 : decode cX11_plansAll 26 = .ok (.invokestatic 172, 3) := by decide +kernel
theorem dX11_plansAll_29 : decode cX11_plansAll 29 = .ok (.ifCond .eq 30, 3) := by decide +kernel
theorem dX11_plansAll_32 : decode cX11_plansAll 32 = .ok (.iload_n 3, 1) := by decide +kernel
theorem dX11_plansAll_33 : decode cX11_plansAll 33 = .ok (.bipush (-9), 2) := by decide +kernel
theorem dX11_plansAll_35 : decode cX11_plansAll 35 = .ok (.if_icmp .eq 19, 3) := by decide +kernel
theorem dX11_plansAll_38 : decode cX11_plansAll 38 = .ok (.aload_n 0, 1) := by decide +kernel
theorem dX11_plansAll_39 : decode cX11_plansAll 39 = .ok (.iload 4, 2) := by decide +kernel
theorem dX11_plansAll_41 : decode cX11_plansAll 41 = .ok (.iconst 3, 1) := by decide +kernel
theorem dX11_plansAll_42 : decode cX11_plansAll 42 = .ok (.invokevirtual 127, 3) := by decide +kernel
theorem dX11_plansAll_45 : decode cX11_plansAll 45 = .ok (.aload_n 0, 1) := by decide +kernel
theorem dX11_plansAll_46 : decode cX11_plansAll 46 = .ok (.iload_n 3, 1) := by decide +kernel
theorem dX11_plansAll_47 : decode cX11_plansAll 47 = .ok (.iconst 3, 1) := by decide +kernel
theorem dX11_plansAll_48 : decode cX11_plansAll 48 = .ok (.invokevirtual 127, 3) := by decide +kernel
theorem dX11_plansAll_51 : decode cX11_plansAll 51 = .ok (.if_icmp .le 8, 3) := by decide +kernel
theorem dX11_plansAll_54 : decode cX11_plansAll 54 = .ok (.iload 4, 2) := by decide +kernel
theorem dX11_plansAll_56 : decode cX11_plansAll 56 = .ok (.goto 4, 3) := by decide +kernel
theorem dX11_plansAll_59 : decode cX11_plansAll 59 = .ok (.iload_n 3, 1) := by decide +kernel
theorem dX11_plansAll_60 : decode cX11_plansAll 60 = .ok (.istore_n 3, 1) := by decide +kernel
theorem dX11_plansAll_61 : decode cX11_plansAll 61 = .ok (.iinc 4 1, 3) := by decide +kernel
theorem dX11_plansAll_64 : decode cX11_plansAll 64 = .ok (.goto (-52), 3) := by decide +kernel
theorem dX11_plansAll_67 : decode cX11_plansAll 67 = .ok (.iload_n 2, 1) := by decide +kernel
theorem dX11_plansAll_68 : decode cX11_plansAll 68 = .ok (.iconst 1, 1) := by decide +kernel
theorem dX11_plansAll_69 : decode cX11_plansAll 69 = .ok (.iload_n 3, 1) := by decide +kernel
theorem dX11_plansAll_70 : decode cX11_plansAll 70 = .ok (.ishl, 1) := by decide +kernel
theorem dX11_plansAll_71 : decode cX11_plansAll 71 = .ok (.iconst (-1), 1) := by decide +kernel
theorem dX11_plansAll_72 : decode cX11_plansAll 72 = .ok (.ixor, 1) := by decide +kernel
theorem dX11_plansAll_73 : decode cX11_plansAll 73 = .ok (.iand, 1) := by decide +kernel
theorem dX11_plansAll_74 : decode cX11_plansAll 74 = .ok (.istore_n 2, 1) := by decide +kernel
theorem dX11_plansAll_75 : decode cX11_plansAll 75 = .ok (.iload_n 2, 1) := by decide +kernel
theorem dX11_plansAll_76 : decode cX11_plansAll 76 = .ok (.aload_n 0, 1) := by decide +kernel
theorem dX11_plansAll_77 : decode cX11_plansAll 77 = .ok (.iload_n 3, 1) := by decide +kernel
theorem dX11_plansAll_78 : decode cX11_plansAll 78 = .ok (.invokevirtual 198, 3) := by decide +kernel
theorem dX11_plansAll_81 : decode cX11_plansAll 81 = .ok (.ior, 1) := by decide +kernel
theorem dX11_plansAll_82 : decode cX11_plansAll 82 = .ok (.istore_n 2, 1) := by decide +kernel
theorem dX11_plansAll_83 : decode cX11_plansAll 83 = .ok (.goto (-81), 3) := by decide +kernel
theorem dX11_plansAll_86 : decode cX11_plansAll 86 = .ok (.return_, 1) := by decide +kernel
theorem dX11_copies_0 : decode cX11_copies 0 = .ok (.iconst 0, 1) := by decide +kernel
theorem dX11_copies_1 : decode cX11_copies 1 = .ok (.istore 5, 2) := by decide +kernel
theorem dX11_copies_3 : decode cX11_copies 3 = .ok (.iload 5, 2) := by decide +kernel
theorem dX11_copies_5 : decode cX11_copies 5 = .ok (.sipush 163, 3) := by decide +kernel
theorem dX11_copies_8 : decode cX11_copies 8 = .ok (.if_icmp .ge 22, 3) := by decide +kernel
theorem dX11_copies_11 : decode cX11_copies 11 = .ok (.aload_n 2, 1) := by decide +kernel
theorem dX11_copies_12 : decode cX11_copies 12 = .ok (.iload 4, 2) := by decide +kernel
theorem dX11_copies_14 : decode cX11_copies 14 = .ok (.iload 5, 2) := by decide +kernel
theorem dX11_copies_16 : decode cX11_copies 16 = .ok (.iadd, 1) := by decide +kernel
theorem dX11_copies_17 : decode cX11_copies 17 = .ok (.aload_n 1, 1) := by decide +kernel
theorem dX11_copies_18 : decode cX11_copies 18 = .ok (.iload_n 3, 1) := by decide +kernel
theorem dX11_copies_19 : decode cX11_copies 19 = .ok (.iload 5, 2) := by decide +kernel
theorem dX11_copies_21 : decode cX11_copies 21 = .ok (.iadd, 1) := by decide +kernel
theorem dX11_copies_22 : decode cX11_copies 22 = .ok (.iaload, 1) := by decide +kernel
theorem dX11_copies_23 : decode cX11_copies 23 = .ok (.iastore, 1) := by decide +kernel
theorem dX11_copies_24 : decode cX11_copies 24 = .ok (.iinc 5 1, 3) := by decide +kernel
theorem dX11_copies_27 : decode cX11_copies 27 = .ok (.goto (-24), 3) := by decide +kernel
theorem dX11_copies_30 : decode cX11_copies 30 = .ok (.return_, 1) := by decide +kernel
theorem dX11_notes_0 : decode cX11_notes 0 = .ok (.aload_n 0, 1) := by decide +kernel
theorem dX11_notes_1 : decode cX11_notes 1 = .ok (.getfield 104, 3) := by decide +kernel
theorem dX11_notes_4 : decode cX11_notes 4 = .ok (.bipush 8, 2) := by decide +kernel
theorem dX11_notes_6 : decode cX11_notes 6 = .ok (.if_icmp .ne 44, 3) := by decide +kernel
theorem dX11_notes_9 : decode cX11_notes 9 = .ok (.iconst 0, 1) := by decide +kernel
theorem dX11_notes_10 : decode cX11_notes 10 = .ok (.istore_n 1, 1) := by decide +kernel
theorem dX11_notes_11 : decode cX11_notes 11 = .ok (.iload_n 1, 1) := by decide +kernel
theorem dX11_notes_12 : decode cX11_notes 12 = .ok (.sipush 1141, 3) := by decide +kernel
theorem dX11_notes_15 : decode cX11_notes 15 = .ok (.if_icmp .ge 25, 3) := by decide +kernel
theorem dX11_notes_18 : decode cX11_notes 18 = .ok (.aload_n 0, 1) := by decide +kernel
theorem dX11_notes_19 : decode cX11_notes 19 = .ok (.getfield 19, 3) := by decide +kernel
theorem dX11_notes_22 : decode cX11_notes 22 = .ok (.iload_n 1, 1) := by decide +kernel
theorem dX11_notes_23 : decode cX11_notes 23 = .ok (.aload_n 0, 1) := by decide +kernel
theorem dX11_notes_24 : decode cX11_notes 24 = .ok (.getfield 19, 3) := by decide +kernel
theorem dX11_notes_27 : decode cX11_notes 27 = .ok (.iload_n 1, 1) := by decide +kernel
theorem dX11_notes_28 : decode cX11_notes 28 = .ok (.sipush 163, 3) := by decide +kernel
theorem dX11_notes_31 : decode cX11_notes 31 = .ok (.iadd, 1) := by decide +kernel
theorem dX11_notes_32 : decode cX11_notes 32 = .ok (.iaload, 1) := by decide +kernel
theorem dX11_notes_33 : decode cX11_notes 33 = .ok (.iastore, 1) := by decide +kernel
theorem dX11_notes_34 : decode cX11_notes 34 = .ok (.iinc 1 1, 3) := by decide +kernel
theorem dX11_notes_37 : decode cX11_notes 37 = .ok (.goto (-26), 3) := by decide +kernel
theorem dX11_notes_40 : decode cX11_notes 40 = .ok (.aload_n 0, 1) := by decide +kernel
theorem dX11_notes_41 : decode cX11_notes 41 = .ok (.dup, 1) := by decide +kernel
theorem dX11_notes_42 : decode cX11_notes 42 = .ok (.getfield 104, 3) := by decide +kernel
theorem dX11_notes_45 : decode cX11_notes 45 = .ok (.iconst 1, 1) := by decide +kernel
theorem dX11_notes_46 : decode cX11_notes 46 = .ok (.isub, 1) := by decide +kernel
theorem dX11_notes_47 : decode cX11_notes 47 = .ok (.putfield 104, 3) := by decide +kernel
theorem dX11_notes_50 : decode cX11_notes 50 = .ok (.aload_n 0, 1) := by decide +kernel
theorem dX11_notes_51 : decode cX11_notes 51 = .ok (.aload_n 0, 1) := by decide +kernel
theorem dX11_notes_52 : decode cX11_notes 52 = .ok (.getfield 16, 3) := by decide +kernel
theorem dX11_notes_55 : decode cX11_notes 55 = .ok (.aload_n 0, 1) := by decide +kernel
theorem dX11_notes_56 : decode cX11_notes 56 = .ok (.getfield 19, 3) := by decide +kernel
theorem dX11_notes_59 : decode cX11_notes 59 = .ok (.iconst 0, 1) := by decide +kernel
theorem dX11_notes_60 : decode cX11_notes 60 = .ok (.sipush 163, 3) := by decide +kernel
theorem dX11_notes_63 : decode cX11_notes 63 = .ok (.aload_n 0, 1) := by decide +kernel
theorem dX11_notes_64 : decode cX11_notes 64 = .ok (.getfield 104, 3) := by decide +kernel
theorem dX11_notes_67 : decode cX11_notes 67 = .ok (.imul, 1) := by decide +kernel
theorem dX11_notes_68 : decode cX11_notes 68 = .ok (.invokevirtual 201, 3) := by decide +kernel
theorem dX11_notes_71 : decode cX11_notes 71 = .ok (.aload_n 0, 1) := by decide +kernel
theorem dX11_notes_72 : decode cX11_notes 72 = .ok (.dup, 1) := by decide +kernel
theorem dX11_notes_73 : decode cX11_notes 73 = .ok (.getfield 104, 3) := by decide +kernel
theorem dX11_notes_76 : decode cX11_notes 76 = .ok (.iconst 1, 1) := by decide +kernel
theorem dX11_notes_77 : decode cX11_notes 77 = .ok (.iadd, 1) := by decide +kernel
theorem dX11_notes_78 : decode cX11_notes 78 = .ok (.putfield 104, 3) := by decide +kernel
theorem dX11_notes_81 : decode cX11_notes 81 = .ok (.return_, 1) := by decide +kernel
theorem dX11_sends_0 : decode cX11_sends 0 = .ok (.aload_n 0, 1) := by decide +kernel
theorem dX11_sends_1 : decode cX11_sends 1 = .ok (.iconst 0, 1) := by decide +kernel
theorem dX11_sends_2 : decode cX11_sends 2 = .ok (.putfield 62, 3) := by decide +kernel
theorem dX11_sends_5 : decode cX11_sends 5 = .ok (.aload_n 0, 1) := by decide +kernel
theorem dX11_sends_6 : decode cX11_sends 6 = .ok (.iload_n 1, 1) := by decide +kernel
theorem dX11_sends_7 : decode cX11_sends 7 = .ok (.invokevirtual 205, 3) := by decide +kernel
theorem dX11_sends_10 : decode cX11_sends 10 = .ok (.ifCond .eq 42, 3) := by decide +kernel
theorem dX11_sends_13 : decode cX11_sends 13 = .ok (.aload_n 0, 1) := by decide +kernel
theorem dX11_sends_14 : decode cX11_sends 14 = .ok (.iload_n 2, 1) := by decide +kernel
theorem dX11_sends_15 : decode cX11_sends 15 = .ok (.invokevirtual 205, 3) := by decide +kernel
theorem dX11_sends_18 : decode cX11_sends 18 = .ok (.ifCond .eq 34, 3) := by decide +kernel
theorem dX11_sends_21 : decode cX11_sends 21 = .ok (.iload_n 3, 1) := by decide +kernel
theorem dX11_sends_22 : decode cX11_sends 22 = .ok (.iconst 1, 1) := by decide +kernel
theorem dX11_sends_23 : decode cX11_sends 23 = .ok (.bipush 20, 2) := by decide +kernel
theorem dX11_sends_25 : decode cX11_sends 25 = .ok (.invokestatic 69, 3) := by decide +kernel
theorem dX11_sends_28 : decode cX11_sends 28 = .ok (.ifCond .eq 24, 3) := by decide +kernel
theorem dX11_sends_31 : decode cX11_sends 31 = .ok (.iload 4, 2) := by decide +kernel
theorem dX11_sends_33 : decode cX11_sends 33 = .ok (.iconst 0, 1) := by decide +kernel
theorem dX11_sends_34 : decode cX11_sends 34 = .ok (.bipush 99, 2) := by decide +kernel
theorem dX11_sends_36 : decode cX11_sends 36 = .ok (.invokestatic 69, 3) := by decide +kernel
theorem dX11_sends_39 : decode cX11_sends 39 = .ok (.ifCond .eq 13, 3) := by decide +kernel
theorem dX11_sends_42 : decode cX11_sends 42 = .ok (.iload 5, 2) := by decide +kernel
theorem dX11_sends_44 : decode cX11_sends 44 = .ok (.iconst 0, 1) := by decide +kernel
theorem dX11_sends_45 : decode cX11_sends 45 = .ok (.iconst 2, 1) := by decide +kernel
theorem dX11_sends_46 : decode cX11_sends 46 = .ok (.invokestatic 69, 3) := by decide +kernel
theorem dX11_sends_49 : decode cX11_sends 49 = .ok (.ifCond .ne 5, 3) := by decide +kernel
theorem dX11_sends_52 : decode cX11_sends 52 = .ok (.iconst (-1), 1) := by decide +kernel
theorem dX11_sends_53 : decode cX11_sends 53 = .ok (.ireturn, 1) := by decide +kernel
theorem dX11_sends_54 : decode cX11_sends 54 = .ok (.aload_n 0, 1) := by decide +kernel
theorem dX11_sends_55 : decode cX11_sends 55 = .ok (.getfield 16, 3) := by decide +kernel
theorem dX11_sends_58 : decode cX11_sends 58 = .ok (.iconst 2, 1) := by decide +kernel
theorem dX11_sends_59 : decode cX11_sends 59 = .ok (.iaload, 1) := by decide +kernel
theorem dX11_sends_60 : decode cX11_sends 60 = .ok (.bipush 8, 2) := by decide +kernel
theorem dX11_sends_62 : decode cX11_sends 62 = .ok (.if_icmp .ne 6, 3) := by decide +kernel
theorem dX11_sends_65 : decode cX11_sends 65 = .ok (.bipush (-3), 2) := by decide +kernel
theorem dX11_sends_67 : decode cX11_sends 67 = .ok (.ireturn, 1) := by decide +kernel
theorem dX11_sends_68 : decode cX11_sends 68 = .ok (.aload_n 0, 1) := by decide +kernel
theorem dX11_sends_69 : decode cX11_sends 69 = .ok (.invokevirtual 208, 3) := by decide +kernel
theorem dX11_sends_72 : decode cX11_sends 72 = .ok (.aload_n 0, 1) := by decide +kernel
theorem dX11_sends_73 : decode cX11_sends 73 = .ok (.getfield 16, 3) := by decide +kernel
theorem dX11_sends_76 : decode cX11_sends 76 = .ok (.iconst 2, 1) := by decide +kernel
theorem dX11_sends_77 : decode cX11_sends 77 = .ok (.iaload, 1) := by decide +kernel
theorem dX11_sends_78 : decode cX11_sends 78 = .ok (.istore 6, 2) := by decide +kernel
theorem dX11_sends_80 : decode cX11_sends 80 = .ok (.aload_n 0, 1) := by decide +kernel
theorem dX11_sends_81 : decode cX11_sends 81 = .ok (.getfield 16, 3) := by decide +kernel
theorem dX11_sends_84 : decode cX11_sends 84 = .ok (.iconst 2, 1) := by decide +kernel
theorem dX11_sends_85 : decode cX11_sends 85 = .ok (.dup2, 1) := by decide +kernel
theorem dX11_sends_86 : decode cX11_sends 86 = .ok (.iaload, 1) := by decide +kernel
theorem dX11_sends_87 : decode cX11_sends 87 = .ok (.iconst 1, 1) := by decide +kernel
theorem dX11_sends_88 : decode cX11_sends 88 = .ok (.iadd, 1) := by decide +kernel
theorem dX11_sends_89 : decode cX11_sends 89 = .ok (.iastore, 1) := by decide +kernel
theorem dX11_sends_90 : decode cX11_sends 90 = .ok (.aload_n 0, 1) := by decide +kernel
theorem dX11_sends_91 : decode cX11_sends 91 = .ok (.getfield 16, 3) := by decide +kernel
theorem dX11_sends_94 : decode cX11_sends 94 = .ok (.iload 6, 2) := by decide +kernel
theorem dX11_sends_96 : decode cX11_sends 96 = .ok (.invokestatic 123, 3) := by decide +kernel
theorem dX11_sends_99 : decode cX11_sends 99 = .ok (.iconst 0, 1) := by decide +kernel
theorem dX11_sends_100 : decode cX11_sends 100 = .ok (.iadd, 1) := by decide +kernel
theorem dX11_sends_101 : decode cX11_sends 101 = .ok (.iload_n 3, 1) := by decide +kernel
theorem dX11_sends_102 : decode cX11_sends 102 = .ok (.iastore, 1) := by decide +kernel
theorem dX11_sends_103 : decode cX11_sends 103 = .ok (.aload_n 0, 1) := by decide +kernel
theorem dX11_sends_104 : decode cX11_sends 104 = .ok (.getfield 16, 3) := by decide +kernel
theorem dX11_sends_107 : decode cX11_sends 107 = .ok (.iload 6, 2) := by decide +kernel
theorem dX11_sends_109 : decode cX11_sends 109 = .ok (.invokestatic 123, 3) := by decide +kernel
theorem dX11_sends_112 : decode cX11_sends 112 = .ok (.iconst 1, 1) := by decide +kernel
theorem dX11_sends_113 : decode cX11_sends 113 = .ok (.iadd, 1) := by decide +kernel
theorem dX11_sends_114 : decode cX11_sends 114 = .ok (.iload_n 2, 1) := by decide +kernel
theorem dX11_sends_115 : decode cX11_sends 115 = .ok (.iastore, 1) := by decide +kernel
theorem dX11_sends_116 : decode cX11_sends 116 = .ok (.aload_n 0, 1) := by decide +kernel
theorem dX11_sends_117 : decode cX11_sends 117 = .ok (.getfield 16, 3) := by decide +kernel
theorem dX11_sends_120 : decode cX11_sends 120 = .ok (.iload 6, 2) := by decide +kernel
theorem dX11_sends_122 : decode cX11_sends 122 = .ok (.invokestatic 123, 3) := by decide +kernel
theorem dX11_sends_125 : decode cX11_sends 125 = .ok (.iconst 2, 1) := by decide +kernel
theorem dX11_sends_126 : decode cX11_sends 126 = .ok (.iadd, 1) := by decide +kernel
theorem dX11_sends_127 : decode cX11_sends 127 = .ok (.iload 4, 2) := by decide +kernel
theorem dX11_sends_129 : decode cX11_sends 129 = .ok (.iastore, 1) := by decide +kernel
theorem dX11_sends_130 : decode cX11_sends 130 = .ok (.aload_n 0, 1) := by decide +kernel
theorem dX11_sends_131 : decode cX11_sends 131 = .ok (.getfield 16, 3) := by decide +kernel
theorem dX11_sends_134 : decode cX11_sends 134 = .ok (.iload 6, 2) := by decide +kernel
theorem dX11_sends_136 : decode cX11_sends 136 = .ok (.invokestatic 123, 3) := by decide +kernel
theorem dX11_sends_139 : decode cX11_sends 139 = .ok (.iconst 3, 1) := by decide +kernel
theorem dX11_sends_140 : decode cX11_sends 140 = .ok (.iadd, 1) := by decide +kernel
theorem dX11_sends_141 : decode cX11_sends 141 = .ok (.iload 5, 2) := by decide +kernel
theorem dX11_sends_143 : decode cX11_sends 143 = .ok (.iastore, 1) := by decide +kernel
theorem dX11_sends_144 : decode cX11_sends 144 = .ok (.aload_n 0, 1) := by decide +kernel
theorem dX11_sends_145 : decode cX11_sends 145 = .ok (.getfield 16, 3) := by decide +kernel
theorem dX11_sends_148 : decode cX11_sends 148 = .ok (.iload 6, 2) := by decide +kernel
theorem dX11_sends_150 : decode cX11_sends 150 = .ok (.invokestatic 123, 3) := by decide +kernel
theorem dX11_sends_153 : decode cX11_sends 153 = .ok (.iconst 4, 1) := by decide +kernel
theorem dX11_sends_154 : decode cX11_sends 154 = .ok (.iadd, 1) := by decide +kernel
theorem dX11_sends_155 : decode cX11_sends 155 = .ok (.iload_n 1, 1) := by decide +kernel
theorem dX11_sends_156 : decode cX11_sends 156 = .ok (.iastore, 1) := by decide +kernel
theorem dX11_sends_157 : decode cX11_sends 157 = .ok (.aload_n 0, 1) := by decide +kernel
theorem dX11_sends_158 : decode cX11_sends 158 = .ok (.getfield 16, 3) := by decide +kernel
theorem dX11_sends_161 : decode cX11_sends 161 = .ok (.iload 6, 2) := by decide +kernel
theorem dX11_sends_163 : decode cX11_sends 163 = .ok (.invokestatic 123, 3) := by decide +kernel
theorem dX11_sends_166 : decode cX11_sends 166 = .ok (.iconst 5, 1) := by decide +kernel
theorem dX11_sends_167 : decode cX11_sends 167 = .ok (.iadd, 1) := by decide +kernel
theorem dX11_sends_168 : decode cX11_sends 168 = .ok (.iconst 0, 1) := by decide +kernel
theorem dX11_sends_169 : decode cX11_sends 169 = .ok (.iastore, 1) := by decide +kernel
theorem dX11_sends_170 : decode cX11_sends 170 = .ok (.aload_n 0, 1) := by decide +kernel
theorem dX11_sends_171 : decode cX11_sends 171 = .ok (.getfield 16, 3) := by decide +kernel
theorem dX11_sends_174 : decode cX11_sends 174 = .ok (.iload 6, 2) := by decide +kernel
theorem dX11_sends_176 : decode cX11_sends 176 = .ok (.invokestatic 123, 3) := by decide +kernel
theorem dX11_sends_179 : decode cX11_sends 179 = .ok (.bipush 6, 2) := by decide +kernel
theorem dX11_sends_181 : decode cX11_sends 181 = .ok (.iadd, 1) := by decide +kernel
theorem dX11_sends_182 : decode cX11_sends 182 = .ok (.iconst 0, 1) := by decide +kernel
theorem dX11_sends_183 : decode cX11_sends 183 = .ok (.iastore, 1) := by decide +kernel
theorem dX11_sends_184 : decode cX11_sends 184 = .ok (.aload_n 0, 1) := by decide +kernel
theorem dX11_sends_185 : decode cX11_sends 185 = .ok (.getfield 16, 3) := by decide +kernel
theorem dX11_sends_188 : decode cX11_sends 188 = .ok (.iload 6, 2) := by decide +kernel
theorem dX11_sends_190 : decode cX11_sends 190 = .ok (.invokestatic 123, 3) := by decide +kernel
theorem dX11_sends_193 : decode cX11_sends 193 = .ok (.bipush 7, 2) := by decide +kernel
theorem dX11_sends_195 : decode cX11_sends 195 = .ok (.iadd, 1) := by decide +kernel
theorem dX11_sends_196 : decode cX11_sends 196 = .ok (.bipush (-9), 2) := by decide +kernel
theorem dX11_sends_198 : decode cX11_sends 198 = .ok (.iastore, 1) := by decide +kernel
theorem dX11_sends_199 : decode cX11_sends 199 = .ok (.aload_n 0, 1) := by decide +kernel
theorem dX11_sends_200 : decode cX11_sends 200 = .ok (.getfield 16, 3) := by decide +kernel
theorem dX11_sends_203 : decode cX11_sends 203 = .ok (.iload 6, 2) := by decide +kernel
theorem dX11_sends_205 : decode cX11_sends 205 = .ok (.invokestatic 123, 3) := by decide +kernel
theorem dX11_sends_208 : decode cX11_sends 208 = .ok (.bipush 9, 2) := by decide +kernel
theorem dX11_sends_210 : decode cX11_sends 210 = .ok (.iadd, 1) := by decide +kernel
theorem dX11_sends_211 : decode cX11_sends 211 = .ok (.iconst 0, 1) := by decide +kernel
theorem dX11_sends_212 : decode cX11_sends 212 = .ok (.iastore, 1) := by decide +kernel
theorem dX11_sends_213 : decode cX11_sends 213 = .ok (.aload_n 0, 1) := by decide +kernel
theorem dX11_sends_214 : decode cX11_sends 214 = .ok (.iconst 1, 1) := by decide +kernel
theorem dX11_sends_215 : decode cX11_sends 215 = .ok (.iload 6, 2) := by decide +kernel
theorem dX11_sends_217 : decode cX11_sends 217 = .ok (.ishl, 1) := by decide +kernel
theorem dX11_sends_218 : decode cX11_sends 218 = .ok (.invokevirtual 211, 3) := by decide +kernel
theorem dX11_sends_221 : decode cX11_sends 221 = .ok (.aload_n 0, 1) := by decide +kernel
theorem dX11_sends_222 : decode cX11_sends 222 = .ok (.iload 6, 2) := by decide +kernel
theorem dX11_sends_224 : decode cX11_sends 224 = .ok (.invokevirtual 140, 3) := by decide +kernel
theorem dX11_sends_227 : decode cX11_sends 227 = .ok (.iconst 2, 1) := by decide +kernel
theorem dX11_sends_228 : decode cX11_sends 228 = .ok (.if_icmp .ne 12, 3) := by decide +kernel
theorem dX11_sends_231 : decode cX11_sends 231 = .ok (.aload_n 0, 1) := by decide +kernel
theorem dX11_sends_232 : decode cX11_sends 232 = .ok (.getfield 16, 3) := by decide +kernel
theorem dX11_sends_235 : decode cX11_sends 235 = .ok (.iconst 0, 1) := by decide +kernel
theorem dX11_sends_236 : decode cX11_sends 236 = .ok (.iaload, 1) := by decide +kernel
theorem dX11_sends_237 : decode cX11_sends 237 = .ok (.goto 9, 3) := by decide +kernel
theorem dX11_sends_240 : decode cX11_sends 240 = .ok (.aload_n 0, 1) := by decide +kernel
theorem dX11_sends_241 : decode cX11_sends 241 = .ok (.iload 6, 2) := by decide +kernel
theorem dX11_sends_243 : decode cX11_sends 243 = .ok (.invokevirtual 214, 3) := by decide +kernel
theorem dX11_sends_246 : decode cX11_sends 246 = .ok (.ireturn, 1) := by decide +kernel
theorem dX11_lastEnd_0 : decode cX11_lastEnd 0 = .ok (.aload_n 0, 1) := by decide +kernel
theorem dX11_lastEnd_1 : decode cX11_lastEnd 1 = .ok (.iload_n 1, 1) := by decide +kernel
theorem dX11_lastEnd_2 : decode cX11_lastEnd 2 = .ok (.bipush 9, 2) := by decide +kernel
theorem dX11_lastEnd_4 : decode cX11_lastEnd 4 = .ok (.invokevirtual 127, 3) := by decide +kernel
theorem dX11_lastEnd_7 : decode cX11_lastEnd 7 = .ok (.ifCond .le 38, 3) := by decide +kernel
theorem dX11_lastEnd_10 : decode cX11_lastEnd 10 = .ok (.bipush 10, 2) := by decide +kernel
theorem dX11_lastEnd_12 : decode cX11_lastEnd 12 = .ok (.iconst 2, 1) := by decide +kernel
theorem dX11_lastEnd_13 : decode cX11_lastEnd 13 = .ok (.aload_n 0, 1) := by decide +kernel
theorem dX11_lastEnd_14 : decode cX11_lastEnd 14 = .ok (.iload_n 1, 1) := by decide +kernel
theorem dX11_lastEnd_15 : decode cX11_lastEnd 15 = .ok (.bipush 9, 2) := by decide +kernel
theorem dX11_lastEnd_17 : decode cX11_lastEnd 17 = .ok (.invokevirtual 127, 3) := by decide +kernel
theorem dX11_lastEnd_20 : decode cX11_lastEnd 20 = .ok (.imul, 1) := by decide +kernel
theorem dX11_lastEnd_21 : decode cX11_lastEnd 21 = .ok (.iadd, 1) := by decide +kernel
theorem dX11_lastEnd_22 : decode cX11_lastEnd 22 = .ok (.iconst 2, 1) := by decide +kernel
theorem dX11_lastEnd_23 : decode cX11_lastEnd 23 = .ok (.isub, 1) := by decide +kernel
theorem dX11_lastEnd_24 : decode cX11_lastEnd 24 = .ok (.istore_n 2, 1) := by decide +kernel
theorem dX11_lastEnd_25 : decode cX11_lastEnd 25 = .ok (.aload_n 0, 1) := by decide +kernel
theorem dX11_lastEnd_26 : decode cX11_lastEnd 26 = .ok (.iload_n 1, 1) := by decide +kernel
theorem dX11_lastEnd_27 : decode cX11_lastEnd 27 = .ok (.aload_n 0, 1) := by decide +kernel
theorem dX11_lastEnd_28 : decode cX11_lastEnd 28 = .ok (.iload_n 1, 1) := by decide +kernel
theorem dX11_lastEnd_29 : decode cX11_lastEnd 29 = .ok (.iload_n 2, 1) := by decide +kernel
theorem dX11_lastEnd_30 : decode cX11_lastEnd 30 = .ok (.invokevirtual 127, 3) := by decide +kernel
theorem dX11_lastEnd_33 : decode cX11_lastEnd 33 = .ok (.aload_n 0, 1) := by decide +kernel
theorem dX11_lastEnd_34 : decode cX11_lastEnd 34 = .ok (.iload_n 1, 1) := by decide +kernel
theorem dX11_lastEnd_35 : decode cX11_lastEnd 35 = .ok (.iload_n 2, 1) := by decide +kernel
theorem dX11_lastEnd_36 : decode cX11_lastEnd 36 = .ok (.iconst 1, 1) := by decide +kernel
theorem dX11_lastEnd_37 : decode cX11_lastEnd 37 = .ok (.iadd, 1) := by decide +kernel
theorem dX11_lastEnd_38 : decode cX11_lastEnd 38 = .ok (.invokevirtual 127, 3) := by decide +kernel
theorem dX11_lastEnd_41 : decode cX11_lastEnd 41 = .ok (.invokevirtual 180, 3) := by decide +kernel
theorem dX11_lastEnd_44 : decode cX11_lastEnd 44 = .ok (.ireturn, 1) := by decide +kernel
theorem dX11_lastEnd_45 : decode cX11_lastEnd 45 = .ok (.aload_n 0, 1) := by decide +kernel
theorem dX11_lastEnd_46 : decode cX11_lastEnd 46 = .ok (.iload_n 1, 1) := by decide +kernel
theorem dX11_lastEnd_47 : decode cX11_lastEnd 47 = .ok (.invokevirtual 134, 3) := by decide +kernel
theorem dX11_lastEnd_50 : decode cX11_lastEnd 50 = .ok (.ifCond .eq 25, 3) := by decide +kernel
theorem dX11_lastEnd_53 : decode cX11_lastEnd 53 = .ok (.aload_n 0, 1) := by decide +kernel
theorem dX11_lastEnd_54 : decode cX11_lastEnd 54 = .ok (.iload_n 1, 1) := by decide +kernel
theorem dX11_lastEnd_55 : decode cX11_lastEnd 55 = .ok (.aload_n 0, 1) := by decide +kernel
theorem dX11_lastEnd_56 : decode cX11_lastEnd 56 = .ok (.iload_n 1, 1) := by decide +kernel
theorem dX11_lastEnd_57 : decode cX11_lastEnd 57 = .ok (.bipush 7, 2) := by decide +kernel
theorem dX11_lastEnd_59 : decode cX11_lastEnd 59 = .ok (.invokevirtual 127, 3) := by decide +kernel
theorem dX11_lastEnd_62 : decode cX11_lastEnd 62 = .ok (.aload_n 0, 1) := by decide +kernel
theorem dX11_lastEnd_63 : decode cX11_lastEnd 63 = .ok (.iload_n 1, 1) := by decide +kernel
theorem dX11_lastEnd_64 : decode cX11_lastEnd 64 = .ok (.bipush 8, 2) := by decide +kernel
theorem dX11_lastEnd_66 : decode cX11_lastEnd 66 = .ok (.invokevirtual 127, 3) := by decide +kernel
theorem dX11_lastEnd_69 : decode cX11_lastEnd 69 = .ok (.invokevirtual 180, 3) := by decide +kernel
theorem dX11_lastEnd_72 : decode cX11_lastEnd 72 = .ok (.goto 5, 3) := by decide +kernel
theorem dX11_lastEnd_75 : decode cX11_lastEnd 75 = .ok (.bipush (-9), 2) := by decide +kernel
theorem dX11_lastEnd_77 : decode cX11_lastEnd 77 = .ok (.ireturn, 1) := by decide +kernel
theorem dX11_drops_0 : decode cX11_drops 0 = .ok (.aload_n 0, 1) := by decide +kernel
theorem dX11_drops_1 : decode cX11_drops 1 = .ok (.iconst 0, 1) := by decide +kernel
theorem dX11_drops_2 : decode cX11_drops 2 = .ok (.putfield 62, 3) := by decide +kernel
theorem dX11_drops_5 : decode cX11_drops 5 = .ok (.aload_n 0, 1) := by decide +kernel
theorem dX11_drops_6 : decode cX11_drops 6 = .ok (.iload_n 1, 1) := by decide +kernel
theorem dX11_drops_7 : decode cX11_drops 7 = .ok (.invokevirtual 217, 3) := by decide +kernel
theorem dX11_drops_10 : decode cX11_drops 10 = .ok (.ifCond .ne 5, 3) := by decide +kernel
theorem dX11_drops_13 : decode cX11_drops 13 = .ok (.iconst (-1), 1) := by decide +kernel
theorem dX11_drops_14 : decode cX11_drops 14 = .ok (.ireturn, 1) := by decide +kernel
theorem dX11_drops_15 : decode cX11_drops 15 = .ok (.aload_n 0, 1) := by decide +kernel
theorem dX11_drops_16 : decode cX11_drops 16 = .ok (.iload_n 1, 1) := by decide +kernel
theorem dX11_drops_17 : decode cX11_drops 17 = .ok (.invokevirtual 140, 3) := by decide +kernel
theorem dX11_drops_20 : decode cX11_drops 20 = .ok (.iconst 1, 1) := by decide +kernel
theorem dX11_drops_21 : decode cX11_drops 21 = .ok (.if_icmp .le 6, 3) := by decide +kernel
theorem dX11_drops_24 : decode cX11_drops 24 = .ok (.bipush (-2), 2) := by decide +kernel
theorem dX11_drops_26 : decode cX11_drops 26 = .ok (.ireturn, 1) := by decide +kernel
theorem dX11_drops_27 : decode cX11_drops 27 = .ok (.aload_n 0, 1) := by decide +kernel
theorem dX11_drops_28 : decode cX11_drops 28 = .ok (.invokevirtual 208, 3) := by decide +kernel
theorem dX11_drops_31 : decode cX11_drops 31 = .ok (.aload_n 0, 1) := by decide +kernel
theorem dX11_drops_32 : decode cX11_drops 32 = .ok (.iload_n 1, 1) := by decide +kernel
theorem dX11_drops_33 : decode cX11_drops 33 = .ok (.invokevirtual 176, 3) := by decide +kernel
theorem dX11_drops_36 : decode cX11_drops 36 = .ok (.aload_n 0, 1) := by decide +kernel
theorem dX11_drops_37 : decode cX11_drops 37 = .ok (.getfield 16, 3) := by decide +kernel
theorem dX11_drops_40 : decode cX11_drops 40 = .ok (.iload_n 1, 1) := by decide +kernel
theorem dX11_drops_41 : decode cX11_drops 41 = .ok (.invokestatic 123, 3) := by decide +kernel
theorem dX11_drops_44 : decode cX11_drops 44 = .ok (.iconst 5, 1) := by decide +kernel
theorem dX11_drops_45 : decode cX11_drops 45 = .ok (.iadd, 1) := by decide +kernel
theorem dX11_drops_46 : decode cX11_drops 46 = .ok (.iconst 1, 1) := by decide +kernel
theorem dX11_drops_47 : decode cX11_drops 47 = .ok (.iastore, 1) := by decide +kernel
theorem dX11_drops_48 : decode cX11_drops 48 = .ok (.iconst 1, 1) := by decide +kernel
theorem dX11_drops_49 : decode cX11_drops 49 = .ok (.ireturn, 1) := by decide +kernel
theorem dX11_moves_0 : decode cX11_moves 0 = .ok (.aload_n 0, 1) := by decide +kernel
theorem dX11_moves_1 : decode cX11_moves 1 = .ok (.iload_n 1, 1) := by decide +kernel
theorem dX11_moves_2 : decode cX11_moves 2 = .ok (.invokevirtual 134, 3) := by decide +kernel
theorem dX11_moves_5 : decode cX11_moves 5 = .ok (.ifCond .eq 73, 3) := by decide +kernel
theorem dX11_moves_8 : decode cX11_moves 8 = .ok (.aload_n 0, 1) := by decide +kernel
theorem dX11_moves_9 : decode cX11_moves 9 = .ok (.iload_n 1, 1) := by decide +kernel
theorem dX11_moves_10 : decode cX11_moves 10 = .ok (.aload_n 0, 1) := by decide +kernel
theorem dX11_moves_11 : decode cX11_moves 11 = .ok (.iload_n 1, 1) := by decide +kernel
theorem dX11_moves_12 : decode cX11_moves 12 = .ok (.bipush 7, 2) := by decide +kernel
theorem dX11_moves_14 : decode cX11_moves 14 = .ok (.invokevirtual 127, 3) := by decide +kernel
theorem dX11_moves_17 : decode cX11_moves 17 = .ok (.aload_n 0, 1) := by decide +kernel
theorem dX11_moves_18 : decode cX11_moves 18 = .ok (.iload_n 1, 1) := by decide +kernel
theorem dX11_moves_19 : decode cX11_moves 19 = .ok (.bipush 8, 2) := by decide +kernel
theorem dX11_moves_21 : decode cX11_moves 21 = .ok (.invokevirtual 127, 3) := by decide +kernel
theorem dX11_moves_24 : decode cX11_moves 24 = .ok (.invokevirtual 180, 3) := by decide +kernel
theorem dX11_moves_27 : decode cX11_moves 27 = .ok (.aload_n 0, 1) := by decide +kernel
theorem dX11_moves_28 : decode cX11_moves 28 = .ok (.getfield 16, 3) := by decide +kernel
theorem dX11_moves_31 : decode cX11_moves 31 = .ok (.iconst 0, 1) := by decide +kernel
theorem dX11_moves_32 : decode cX11_moves 32 = .ok (.iaload, 1) := by decide +kernel
theorem dX11_moves_33 : decode cX11_moves 33 = .ok (.if_icmp .gt 45, 3) := by decide +kernel
theorem dX11_moves_36 : decode cX11_moves 36 = .ok (.aload_n 0, 1) := by decide +kernel
theorem dX11_moves_37 : decode cX11_moves 37 = .ok (.getfield 16, 3) := by decide +kernel
theorem dX11_moves_40 : decode cX11_moves 40 = .ok (.iload_n 1, 1) := by decide +kernel
theorem dX11_moves_41 : decode cX11_moves 41 = .ok (.invokestatic 123, 3) := by decide +kernel
theorem dX11_moves_44 : decode cX11_moves 44 = .ok (.iconst 4, 1) := by decide +kernel
theorem dX11_moves_45 : decode cX11_moves 45 = .ok (.iadd, 1) := by decide +kernel
theorem dX11_moves_46 : decode cX11_moves 46 = .ok (.aload_n 0, 1) := by decide +kernel
theorem dX11_moves_47 : decode cX11_moves 47 = .ok (.getfield 7, 3) := by decide +kernel
theorem dX11_moves_50 : decode cX11_moves 50 = .ok (.bipush 6, 2) := by decide +kernel
theorem dX11_moves_52 : decode cX11_moves 52 = .ok (.aload_n 0, 1) := by decide +kernel
theorem dX11_moves_53 : decode cX11_moves 53 = .ok (.iload_n 1, 1) := by decide +kernel
theorem dX11_moves_54 : decode cX11_moves 54 = .ok (.bipush 7, 2) := by decide +kernel
theorem dX11_moves_56 : decode cX11_moves 56 = .ok (.invokevirtual 127, 3) := by decide +kernel
theorem dX11_moves_59 : decode cX11_moves 59 = .ok (.imul, 1) := by decide +kernel
theorem dX11_moves_60 : decode cX11_moves 60 = .ok (.iconst 1, 1) := by decide +kernel
theorem dX11_moves_61 : decode cX11_moves 61 = .ok (.iadd, 1) := by decide +kernel
theorem dX11_moves_62 : decode cX11_moves 62 = .ok (.iaload, 1) := by decide +kernel
theorem dX11_moves_63 : decode cX11_moves 63 = .ok (.iastore, 1) := by decide +kernel
theorem dX11_moves_64 : decode cX11_moves 64 = .ok (.aload_n 0, 1) := by decide +kernel
theorem dX11_moves_65 : decode cX11_moves 65 = .ok (.getfield 16, 3) := by decide +kernel
theorem dX11_moves_68 : decode cX11_moves 68 = .ok (.iload_n 1, 1) := by decide +kernel
theorem dX11_moves_69 : decode cX11_moves 69 = .ok (.invokestatic 123, 3) := by decide +kernel
theorem dX11_moves_72 : decode cX11_moves 72 = .ok (.bipush 7, 2) := by decide +kernel
theorem dX11_moves_74 : decode cX11_moves 74 = .ok (.iadd, 1) := by decide +kernel
theorem dX11_moves_75 : decode cX11_moves 75 = .ok (.bipush (-9), 2) := by decide +kernel
theorem dX11_moves_77 : decode cX11_moves 77 = .ok (.iastore, 1) := by decide +kernel
theorem dX11_moves_78 : decode cX11_moves 78 = .ok (.aload_n 0, 1) := by decide +kernel
theorem dX11_moves_79 : decode cX11_moves 79 = .ok (.iload_n 1, 1) := by decide +kernel
theorem dX11_moves_80 : decode cX11_moves 80 = .ok (.invokevirtual 134, 3) := by decide +kernel
theorem dX11_moves_83 : decode cX11_moves 83 = .ok (.ifCond .ne 179, 3) := by decide +kernel
theorem dX11_moves_86 : decode cX11_moves 86 = .ok (.aload_n 0, 1) := by decide +kernel
theorem dX11_moves_87 : decode cX11_moves 87 = .ok (.iload_n 1, 1) := by decide +kernel
theorem dX11_moves_88 : decode cX11_moves 88 = .ok (.bipush 9, 2) := by decide +kernel
theorem dX11_moves_90 : decode cX11_moves 90 = .ok (.invokevirtual 127, 3) := by decide +kernel
theorem dX11_moves_93 : decode cX11_moves 93 = .ok (.ifCond .le 169, 3) := by decide +kernel
theorem dX11_moves_96 : decode cX11_moves 96 = .ok (.aload_n 0, 1) := by decide +kernel
theorem dX11_moves_97 : decode cX11_moves 97 = .ok (.iload_n 1, 1) := by decide +kernel
theorem dX11_moves_98 : decode cX11_moves 98 = .ok (.bipush 11, 2) := by decide +kernel
theorem dX11_moves_100 : decode cX11_moves 100 = .ok (.invokevirtual 127, 3) := by decide +kernel
theorem dX11_moves_103 : decode cX11_moves 103 = .ok (.aload_n 0, 1) := by decide +kernel
theorem dX11_moves_104 : decode cX11_moves 104 = .ok (.getfield 16, 3) := by decide +kernel
theorem dX11_moves_107 : decode cX11_moves 107 = .ok (.iconst 0, 1) := by decide +kernel
theorem dX11_moves_108 : decode cX11_moves 108 = .ok (.iaload, 1) := by decide +kernel
theorem dX11_moves_109 : decode cX11_moves 109 = .ok (.if_icmp .ge 153, 3) := by decide +kernel
theorem dX11_moves_112 : decode cX11_moves 112 = .ok (.aload_n 0, 1) := by decide +kernel
theorem dX11_moves_113 : decode cX11_moves 113 = .ok (.iload_n 1, 1) := by decide +kernel
theorem dX11_moves_114 : decode cX11_moves 114 = .ok (.bipush 10, 2) := by decide +kernel
theorem dX11_moves_116 : decode cX11_moves 116 = .ok (.invokevirtual 127, 3) := by decide +kernel
theorem dX11_moves_119 : decode cX11_moves 119 = .ok (.istore_n 2, 1) := by decide +kernel
theorem dX11_moves_120 : decode cX11_moves 120 = .ok (.aload_n 0, 1) := by decide +kernel
theorem dX11_moves_121 : decode cX11_moves 121 = .ok (.iload_n 1, 1) := by decide +kernel
theorem dX11_moves_122 : decode cX11_moves 122 = .ok (.bipush 11, 2) := by decide +kernel
theorem dX11_moves_124 : decode cX11_moves 124 = .ok (.invokevirtual 127, 3) := by decide +kernel
theorem dX11_moves_127 : decode cX11_moves 127 = .ok (.istore_n 3, 1) := by decide +kernel
theorem dX11_moves_128 : decode cX11_moves 128 = .ok (.aload_n 0, 1) := by decide +kernel
theorem dX11_moves_129 : decode cX11_moves 129 = .ok (.getfield 16, 3) := by decide +kernel
theorem dX11_moves_132 : decode cX11_moves 132 = .ok (.iload_n 1, 1) := by decide +kernel
theorem dX11_moves_133 : decode cX11_moves 133 = .ok (.invokestatic 123, 3) := by decide +kernel
theorem dX11_moves_136 : decode cX11_moves 136 = .ok (.bipush 9, 2) := by decide +kernel
theorem dX11_moves_138 : decode cX11_moves 138 = .ok (.iadd, 1) := by decide +kernel
theorem dX11_moves_139 : decode cX11_moves 139 = .ok (.dup2, 1) := by decide +kernel
theorem dX11_moves_140 : decode cX11_moves 140 = .ok (.iaload, 1) := by decide +kernel
theorem dX11_moves_141 : decode cX11_moves 141 = .ok (.iconst 1, 1) := by decide +kernel
theorem dX11_moves_142 : decode cX11_moves 142 = .ok (.isub, 1) := by decide +kernel
theorem dX11_moves_143 : decode cX11_moves 143 = .ok (.iastore, 1) := by decide +kernel
theorem dX11_moves_144 : decode cX11_moves 144 = .ok (.bipush 10, 2) := by decide +kernel
theorem dX11_moves_146 : decode cX11_moves 146 = .ok (.istore 4, 2) := by decide +kernel
theorem dX11_moves_148 : decode cX11_moves 148 = .ok (.iload 4, 2) := by decide +kernel
theorem dX11_moves_150 : decode cX11_moves 150 = .ok (.bipush 10, 2) := by decide +kernel
theorem dX11_moves_152 : decode cX11_moves 152 = .ok (.iconst 2, 1) := by decide +kernel
theorem dX11_moves_153 : decode cX11_moves 153 = .ok (.aload_n 0, 1) := by decide +kernel
theorem dX11_moves_154 : decode cX11_moves 154 = .ok (.iload_n 1, 1) := by decide +kernel
theorem dX11_moves_155 : decode cX11_moves 155 = .ok (.bipush 9, 2) := by decide +kernel
theorem dX11_moves_157 : decode cX11_moves 157 = .ok (.invokevirtual 127, 3) := by decide +kernel
theorem dX11_moves_160 : decode cX11_moves 160 = .ok (.imul, 1) := by decide +kernel
theorem dX11_moves_161 : decode cX11_moves 161 = .ok (.iadd, 1) := by decide +kernel
theorem dX11_moves_162 : decode cX11_moves 162 = .ok (.if_icmp .ge 30, 3) := by decide +kernel
theorem dX11_moves_165 : decode cX11_moves 165 = .ok (.aload_n 0, 1) := by decide +kernel
theorem dX11_moves_166 : decode cX11_moves 166 = .ok (.getfield 16, 3) := by decide +kernel
theorem dX11_moves_169 : decode cX11_moves 169 = .ok (.iload_n 1, 1) := by decide +kernel
theorem dX11_moves_170 : decode cX11_moves 170 = .ok (.invokestatic 123, 3) := by decide +kernel
theorem dX11_moves_173 : decode cX11_moves 173 = .ok (.iload 4, 2) := by decide +kernel
theorem dX11_moves_175 : decode cX11_moves 175 = .ok (.iadd, 1) := by decide +kernel
theorem dX11_moves_176 : decode cX11_moves 176 = .ok (.aload_n 0, 1) := by decide +kernel
theorem dX11_moves_177 : decode cX11_moves 177 = .ok (.iload_n 1, 1) := by decide +kernel
theorem dX11_moves_178 : decode cX11_moves 178 = .ok (.iload 4, 2) := by decide +kernel
theorem dX11_moves_180 : decode cX11_moves 180 = .ok (.iconst 2, 1) := by decide +kernel
theorem dX11_moves_181 : decode cX11_moves 181 = .ok (.iadd, 1) := by decide +kernel
theorem dX11_moves_182 : decode cX11_moves 182 = .ok (.invokevirtual 127, 3) := by decide +kernel
theorem dX11_moves_185 : decode cX11_moves 185 = .ok (.iastore, 1) := by decide +kernel
theorem dX11_moves_186 : decode cX11_moves 186 = .ok (.iinc 4 1, 3) := by decide +kernel
theorem dX11_moves_189 : decode cX11_moves 189 = .ok (.goto (-41), 3) := by decide +kernel
theorem dX11_moves_192 : decode cX11_moves 192 = .ok (.aload_n 0, 1) := by decide +kernel
theorem dX11_moves_193 : decode cX11_moves 193 = .ok (.iload_n 1, 1) := by decide +kernel
theorem dX11_moves_194 : decode cX11_moves 194 = .ok (.iload_n 2, 1) := by decide +kernel
theorem dX11_moves_195 : decode cX11_moves 195 = .ok (.iload_n 3, 1) := by decide +kernel
theorem dX11_moves_196 : decode cX11_moves 196 = .ok (.invokevirtual 180, 3) := by decide +kernel
theorem dX11_moves_199 : decode cX11_moves 199 = .ok (.aload_n 0, 1) := by decide +kernel
theorem dX11_moves_200 : decode cX11_moves 200 = .ok (.getfield 16, 3) := by decide +kernel
theorem dX11_moves_203 : decode cX11_moves 203 = .ok (.iconst 0, 1) := by decide +kernel
theorem dX11_moves_204 : decode cX11_moves 204 = .ok (.iaload, 1) := by decide +kernel
theorem dX11_moves_205 : decode cX11_moves 205 = .ok (.if_icmp .gt 28, 3) := by decide +kernel
theorem dX11_moves_208 : decode cX11_moves 208 = .ok (.aload_n 0, 1) := by decide +kernel
theorem dX11_moves_209 : decode cX11_moves 209 = .ok (.getfield 16, 3) := by decide +kernel
theorem dX11_moves_212 : decode cX11_moves 212 = .ok (.iload_n 1, 1) := by decide +kernel
theorem dX11_moves_213 : decode cX11_moves 213 = .ok (.invokestatic 123, 3) := by decide +kernel
theorem dX11_moves_216 : decode cX11_moves 216 = .ok (.iconst 4, 1) := by decide +kernel
theorem dX11_moves_217 : decode cX11_moves 217 = .ok (.iadd, 1) := by decide +kernel
theorem dX11_moves_218 : decode cX11_moves 218 = .ok (.aload_n 0, 1) := by decide +kernel
theorem dX11_moves_219 : decode cX11_moves 219 = .ok (.getfield 7, 3) := by decide +kernel
theorem dX11_moves_222 : decode cX11_moves 222 = .ok (.bipush 6, 2) := by decide +kernel
theorem dX11_moves_224 : decode cX11_moves 224 = .ok (.iload_n 2, 1) := by decide +kernel
theorem dX11_moves_225 : decode cX11_moves 225 = .ok (.imul, 1) := by decide +kernel
theorem dX11_moves_226 : decode cX11_moves 226 = .ok (.iconst 1, 1) := by decide +kernel
theorem dX11_moves_227 : decode cX11_moves 227 = .ok (.iadd, 1) := by decide +kernel
theorem dX11_moves_228 : decode cX11_moves 228 = .ok (.iaload, 1) := by decide +kernel
theorem dX11_moves_229 : decode cX11_moves 229 = .ok (.iastore, 1) := by decide +kernel
theorem dX11_moves_230 : decode cX11_moves 230 = .ok (.goto 29, 3) := by decide +kernel
theorem dX11_moves_233 : decode cX11_moves 233 = .ok (.aload_n 0, 1) := by decide +kernel
theorem dX11_moves_234 : decode cX11_moves 234 = .ok (.getfield 16, 3) := by decide +kernel
theorem dX11_moves_237 : decode cX11_moves 237 = .ok (.iload_n 1, 1) := by decide +kernel
theorem dX11_moves_238 : decode cX11_moves 238 = .ok (.invokestatic 123, 3) := by decide +kernel
theorem dX11_moves_241 : decode cX11_moves 241 = .ok (.bipush 7, 2) := by decide +kernel
theorem dX11_moves_243 : decode cX11_moves 243 = .ok (.iadd, 1) := by decide +kernel
theorem dX11_moves_244 : decode cX11_moves 244 = .ok (.iload_n 2, 1) := by decide +kernel
theorem dX11_moves_245 : decode cX11_moves 245 = .ok (.iastore, 1) := by decide +kernel
theorem dX11_moves_246 : decode cX11_moves 246 = .ok (.aload_n 0, 1) := by decide +kernel
theorem dX11_moves_247 : decode cX11_moves 247 = .ok (.getfield 16, 3) := by decide +kernel
theorem dX11_moves_250 : decode cX11_moves 250 = .ok (.iload_n 1, 1) := by decide +kernel
theorem dX11_moves_251 : decode cX11_moves 251 = .ok (.invokestatic 123, 3) := by decide +kernel
theorem dX11_moves_254 : decode cX11_moves 254 = .ok (.bipush 8, 2) := by decide +kernel
theorem dX11_moves_256 : decode cX11_moves 256 = .ok (.iadd, 1) := by decide +kernel
theorem dX11_moves_257 : decode cX11_moves 257 = .ok (.iload_n 3, 1) := by decide +kernel
theorem dX11_moves_258 : decode cX11_moves 258 = .ok (.iastore, 1) := by decide +kernel
theorem dX11_moves_259 : decode cX11_moves 259 = .ok (.goto (-181), 3) := by decide +kernel
theorem dX11_moves_262 : decode cX11_moves 262 = .ok (.return_, 1) := by decide +kernel
theorem dX11_passes_0 : decode cX11_passes 0 = .ok (.aload_n 0, 1) := by decide +kernel
theorem dX11_passes_1 : decode cX11_passes 1 = .ok (.iconst 0, 1) := by decide +kernel
theorem dX11_passes_2 : decode cX11_passes 2 = .ok (.putfield 62, 3) := by decide +kernel
theorem dX11_passes_5 : decode cX11_passes 5 = .ok (.iload_n 1, 1) := by decide +kernel
theorem dX11_passes_6 : decode cX11_passes 6 = .ok (.iconst 1, 1) := by decide +kernel
theorem dX11_passes_7 : decode cX11_passes 7 = .ok (.bipush 99, 2) := by decide +kernel
theorem dX11_passes_9 : decode cX11_passes 9 = .ok (.invokestatic 69, 3) := by decide +kernel
theorem dX11_passes_12 : decode cX11_passes 12 = .ok (.ifCond .ne 5, 3) := by decide +kernel
theorem dX11_passes_15 : decode cX11_passes 15 = .ok (.iconst (-1), 1) := by decide +kernel
theorem dX11_passes_16 : decode cX11_passes 16 = .ok (.ireturn, 1) := by decide +kernel
theorem dX11_passes_17 : decode cX11_passes 17 = .ok (.aload_n 0, 1) := by decide +kernel
theorem dX11_passes_18 : decode cX11_passes 18 = .ok (.getfield 16, 3) := by decide +kernel
theorem dX11_passes_21 : decode cX11_passes 21 = .ok (.iconst 0, 1) := by decide +kernel
theorem dX11_passes_22 : decode cX11_passes 22 = .ok (.iaload, 1) := by decide +kernel
theorem dX11_passes_23 : decode cX11_passes 23 = .ok (.iload_n 1, 1) := by decide +kernel
theorem dX11_passes_24 : decode cX11_passes 24 = .ok (.iadd, 1) := by decide +kernel
theorem dX11_passes_25 : decode cX11_passes 25 = .ok (.bipush 99, 2) := by decide +kernel
theorem dX11_passes_27 : decode cX11_passes 27 = .ok (.if_icmp .le 6, 3) := by decide +kernel
theorem dX11_passes_30 : decode cX11_passes 30 = .ok (.bipush (-2), 2) := by decide +kernel
theorem dX11_passes_32 : decode cX11_passes 32 = .ok (.ireturn, 1) := by decide +kernel
theorem dX11_passes_33 : decode cX11_passes 33 = .ok (.aload_n 0, 1) := by decide +kernel
theorem dX11_passes_34 : decode cX11_passes 34 = .ok (.invokevirtual 208, 3) := by decide +kernel
theorem dX11_passes_37 : decode cX11_passes 37 = .ok (.aload_n 0, 1) := by decide +kernel
theorem dX11_passes_38 : decode cX11_passes 38 = .ok (.getfield 16, 3) := by decide +kernel
theorem dX11_passes_41 : decode cX11_passes 41 = .ok (.iconst 0, 1) := by decide +kernel
theorem dX11_passes_42 : decode cX11_passes 42 = .ok (.dup2, 1) := by decide +kernel
theorem dX11_passes_43 : decode cX11_passes 43 = .ok (.iaload, 1) := by decide +kernel
theorem dX11_passes_44 : decode cX11_passes 44 = .ok (.iload_n 1, 1) := by decide +kernel
theorem dX11_passes_45 : decode cX11_passes 45 = .ok (.iadd, 1) := by decide +kernel
theorem dX11_passes_46 : decode cX11_passes 46 = .ok (.iastore, 1) := by decide +kernel
theorem dX11_passes_47 : decode cX11_passes 47 = .ok (.iconst 0, 1) := by decide +kernel
theorem dX11_passes_48 : decode cX11_passes 48 = .ok (.istore_n 2, 1) := by decide +kernel
theorem dX11_passes_49 : decode cX11_passes 49 = .ok (.iload_n 2, 1) := by decide +kernel
theorem dX11_passes_50 : decode cX11_passes 50 = .ok (.aload_n 0, 1) := by decide +kernel
theorem dX11_passes_51 : decode cX11_passes 51 = .ok (.getfield 16, 3) := by decide +kernel
theorem dX11_passes_54 : decode cX11_passes 54 = .ok (.iconst 2, 1) := by decide +kernel
theorem dX11_passes_55 : decode cX11_passes 55 = .ok (.iaload, 1) := by decide +kernel
theorem dX11_passes_56 : decode cX11_passes 56 = .ok (.if_icmp .ge 14, 3) := by decide +kernel
theorem dX11_passes_59 : decode cX11_passes 59 = .ok (.aload_n 0, 1) := by decide +kernel
theorem dX11_passes_60 : decode cX11_passes 60 = .ok (.iload_n 2, 1) := by decide +kernel
theorem dX11_passes_61 : decode cX11_passes 61 = .ok (.invokevirtual 220, 3) := by decide +kernel
theorem dX11_passes_64 : decode cX11_passes 64 = .ok (.iinc 2 1, 3) := by decide +kernel
theorem dX11_passes_67 : decode cX11_passes 67 = .ok (.goto (-18), 3) := by decide +kernel
theorem dX11_passes_70 : decode cX11_passes 70 = .ok (.aload_n 0, 1) := by decide +kernel
theorem dX11_passes_71 : decode cX11_passes 71 = .ok (.getfield 16, 3) := by decide +kernel
theorem dX11_passes_74 : decode cX11_passes 74 = .ok (.iconst 0, 1) := by decide +kernel
theorem dX11_passes_75 : decode cX11_passes 75 = .ok (.iaload, 1) := by decide +kernel
theorem dX11_passes_76 : decode cX11_passes 76 = .ok (.ireturn, 1) := by decide +kernel
theorem dX11_hasHopOn_0 : decode cX11_hasHopOn 0 = .ok (.iconst 0, 1) := by decide +kernel
theorem dX11_hasHopOn_1 : decode cX11_hasHopOn 1 = .ok (.istore_n 3, 1) := by decide +kernel
theorem dX11_hasHopOn_2 : decode cX11_hasHopOn 2 = .ok (.iload_n 3, 1) := by decide +kernel
theorem dX11_hasHopOn_3 : decode cX11_hasHopOn 3 = .ok (.aload_n 0, 1) := by decide +kernel
theorem dX11_hasHopOn_4 : decode cX11_hasHopOn 4 = .ok (.iload_n 1, 1) := by decide +kernel
theorem dX11_hasHopOn_5 : decode cX11_hasHopOn 5 = .ok (.bipush 9, 2) := by decide +kernel
theorem dX11_hasHopOn_7 : decode cX11_hasHopOn 7 = .ok (.invokevirtual 127, 3) := by decide +kernel
theorem dX11_hasHopOn_10 : decode cX11_hasHopOn 10 = .ok (.if_icmp .ge 26, 3) := by decide +kernel
theorem dX11_hasHopOn_13 : decode cX11_hasHopOn 13 = .ok (.aload_n 0, 1) := by decide +kernel
theorem dX11_hasHopOn_14 : decode cX11_hasHopOn 14 = .ok (.iload_n 1, 1) := by decide +kernel
theorem dX11_hasHopOn_15 : decode cX11_hasHopOn 15 = .ok (.bipush 10, 2) := by decide +kernel
theorem dX11_hasHopOn_17 : decode cX11_hasHopOn 17 = .ok (.iconst 2, 1) := by decide +kernel
theorem dX11_hasHopOn_18 : decode cX11_hasHopOn 18 = .ok (.iload_n 3, 1) := by decide +kernel
theorem dX11_hasHopOn_19 : decode cX11_hasHopOn 19 = .ok (.imul, 1) := by decide +kernel
theorem dX11_hasHopOn_20 : decode cX11_hasHopOn 20 = .ok (.iadd, 1) := by decide +kernel
theorem dX11_hasHopOn_21 : decode cX11_hasHopOn 21 = .ok (.invokevirtual 127, 3) := by decide +kernel
theorem dX11_hasHopOn_24 : decode cX11_hasHopOn 24 = .ok (.iload_n 2, 1) := by decide +kernel
theorem dX11_hasHopOn_25 : decode cX11_hasHopOn 25 = .ok (.if_icmp .ne 5, 3) := by decide +kernel
theorem dX11_hasHopOn_28 : decode cX11_hasHopOn 28 = .ok (.iconst 1, 1) := by decide +kernel
theorem dX11_hasHopOn_29 : decode cX11_hasHopOn 29 = .ok (.ireturn, 1) := by decide +kernel
theorem dX11_hasHopOn_30 : decode cX11_hasHopOn 30 = .ok (.iinc 3 1, 3) := by decide +kernel
theorem dX11_hasHopOn_33 : decode cX11_hasHopOn 33 = .ok (.goto (-31), 3) := by decide +kernel
theorem dX11_hasHopOn_36 : decode cX11_hasHopOn 36 = .ok (.iconst 0, 1) := by decide +kernel
theorem dX11_hasHopOn_37 : decode cX11_hasHopOn 37 = .ok (.ireturn, 1) := by decide +kernel
theorem dX11_loses_0 : decode cX11_loses 0 = .ok (.aload_n 0, 1) := by decide +kernel
theorem dX11_loses_1 : decode cX11_loses 1 = .ok (.getfield 16, 3) := by decide +kernel
theorem dX11_loses_4 : decode cX11_loses 4 = .ok (.iconst 1, 1) := by decide +kernel
theorem dX11_loses_5 : decode cX11_loses 5 = .ok (.dup2, 1) := by decide +kernel
theorem dX11_loses_6 : decode cX11_loses 6 = .ok (.iaload, 1) := by decide +kernel
theorem dX11_loses_7 : decode cX11_loses 7 = .ok (.iconst 1, 1) := by decide +kernel
theorem dX11_loses_8 : decode cX11_loses 8 = .ok (.iload_n 1, 1) := by decide +kernel
theorem dX11_loses_9 : decode cX11_loses 9 = .ok (.ishl, 1) := by decide +kernel
theorem dX11_loses_10 : decode cX11_loses 10 = .ok (.ior, 1) := by decide +kernel
theorem dX11_loses_11 : decode cX11_loses 11 = .ok (.iastore, 1) := by decide +kernel
theorem dX11_loses_12 : decode cX11_loses 12 = .ok (.iconst 0, 1) := by decide +kernel
theorem dX11_loses_13 : decode cX11_loses 13 = .ok (.istore_n 2, 1) := by decide +kernel
theorem dX11_loses_14 : decode cX11_loses 14 = .ok (.iconst 0, 1) := by decide +kernel
theorem dX11_loses_15 : decode cX11_loses 15 = .ok (.istore_n 3, 1) := by decide +kernel
theorem dX11_loses_16 : decode cX11_loses 16 = .ok (.iload_n 3, 1) := by decide +kernel
theorem dX11_loses_17 : decode cX11_loses 17 = .ok (.aload_n 0, 1) := by decide +kernel
theorem dX11_loses_18 : decode cX11_loses 18 = .ok (.getfield 16, 3) := by decide +kernel
theorem dX11_loses_21 : decode cX11_loses 21 = .ok (.iconst 2, 1) := by decide +kernel
theorem dX11_loses_22 : decode cX11_loses 22 = .ok (.iaload, 1) := by decide +kernel
theorem dX11_loses_23 : decode cX11_loses 23 = .ok (.if_icmp .ge 109, 3) := by decide +kernel
theorem dX11_loses_26 : decode cX11_loses 26 = .ok (.aload_n 0, 1) := by decide +kernel
theorem dX11_loses_27 : decode cX11_loses 27 = .ok (.iload_n 3, 1) := by decide +kernel
theorem dX11_loses_28 : decode cX11_loses 28 = .ok (.bipush 7, 2) := by decide +kernel
theorem dX11_loses_30 : decode cX11_loses 30 = .ok (.invokevirtual 127, 3) := by decide +kernel
theorem dX11_loses_33 : decode cX11_loses 33 = .ok (.iload_n 1, 1) := by decide +kernel
theorem dX11_loses_34 : decode cX11_loses 34 = .ok (.if_icmp .ne 35, 3) := by decide +kernel
theorem dX11_loses_37 : decode cX11_loses 37 = .ok (.aload_n 0, 1) := by decide +kernel
theorem dX11_loses_38 : decode cX11_loses 38 = .ok (.iload_n 3, 1) := by decide +kernel
theorem dX11_loses_39 : decode cX11_loses 39 = .ok (.bipush 8, 2) := by decide +kernel
theorem dX11_loses_41 : decode cX11_loses 41 = .ok (.invokevirtual 127, 3) := by decide +kernel
theorem dX11_loses_44 : decode cX11_loses 44 = .ok (.aload_n 0, 1) := by decide +kernel
theorem dX11_loses_45 : decode cX11_loses 45 = .ok (.aload_n 0, 1) := by decide +kernel
theorem dX11_loses_46 : decode cX11_loses 46 = .ok (.iload_n 3, 1) := by decide +kernel
theorem dX11_loses_47 : decode cX11_loses 47 = .ok (.iconst 0, 1) := by decide +kernel
theorem dX11_loses_48 : decode cX11_loses 48 = .ok (.invokevirtual 127, 3) := by decide +kernel
theorem dX11_loses_51 : decode cX11_loses 51 = .ok (.iload_n 1, 1) := by decide +kernel
theorem dX11_loses_52 : decode cX11_loses 52 = .ok (.invokevirtual 131, 3) := by decide +kernel
theorem dX11_loses_55 : decode cX11_loses 55 = .ok (.iadd, 1) := by decide +kernel
theorem dX11_loses_56 : decode cX11_loses 56 = .ok (.aload_n 0, 1) := by decide +kernel
theorem dX11_loses_57 : decode cX11_loses 57 = .ok (.getfield 16, 3) := by decide +kernel
theorem dX11_loses_60 : decode cX11_loses 60 = .ok (.iconst 0, 1) := by decide +kernel
theorem dX11_loses_61 : decode cX11_loses 61 = .ok (.iaload, 1) := by decide +kernel
theorem dX11_loses_62 : decode cX11_loses 62 = .ok (.if_icmp .le 7, 3) := by decide +kernel
theorem dX11_loses_65 : decode cX11_loses 65 = .ok (.iconst 1, 1) := by decide +kernel
theorem dX11_loses_66 : decode cX11_loses 66 = .ok (.goto 4, 3) := by decide +kernel
theorem dX11_loses_69 : decode cX11_loses 69 = .ok (.iconst 0, 1) := by decide +kernel
theorem dX11_loses_70 : decode cX11_loses 70 = .ok (.istore 4, 2) := by decide +kernel
theorem dX11_loses_72 : decode cX11_loses 72 = .ok (.iload 4, 2) := by decide +kernel
theorem dX11_loses_74 : decode cX11_loses 74 = .ok (.ifCond .ne 12, 3) := by decide +kernel
theorem dX11_loses_77 : decode cX11_loses 77 = .ok (.aload_n 0, 1) := by decide +kernel
theorem dX11_loses_78 : decode cX11_loses 78 = .ok (.iload_n 3, 1) := by decide +kernel
theorem dX11_loses_79 : decode cX11_loses 79 = .ok (.iload_n 1, 1) := by decide +kernel
theorem dX11_loses_80 : decode cX11_loses 80 = .ok (.invokevirtual 223, 3) := by decide +kernel
theorem dX11_loses_83 : decode cX11_loses 83 = .ok (.ifCond .eq 43, 3) := by decide +kernel
theorem dX11_loses_86 : decode cX11_loses 86 = .ok (.aload_n 0, 1) := by decide +kernel
theorem dX11_loses_87 : decode cX11_loses 87 = .ok (.getfield 16, 3) := by decide +kernel
theorem dX11_loses_90 : decode cX11_loses 90 = .ok (.iload_n 3, 1) := by decide +kernel
theorem dX11_loses_91 : decode cX11_loses 91 = .ok (.invokestatic 123, 3) := by decide +kernel
theorem dX11_loses_94 : decode cX11_loses 94 = .ok (.bipush 7, 2) := by decide +kernel
theorem dX11_loses_96 : decode cX11_loses 96 = .ok (.iadd, 1) := by decide +kernel
theorem dX11_loses_97 : decode cX11_loses 97 = .ok (.iload 4, 2) := by decide +kernel
theorem dX11_loses_99 : decode cX11_loses 99 = .ok (.ifCond .eq 8, 3) := by decide +kernel
theorem dX11_loses_102 : decode cX11_loses 102 = .ok (.bipush (-9), 2) := by decide +kernel
theorem dX11_loses_104 : decode cX11_loses 104 = .ok (.goto 10, 3) := by decide +kernel
theorem dX11_loses_107 : decode cX11_loses 107 = .ok (.aload_n 0, 1) := by decide +kernel
theorem dX11_loses_108 : decode cX11_loses 108 = .ok (.iload_n 3, 1) := by decide +kernel
theorem dX11_loses_109 : decode cX11_loses 109 = .ok (.bipush 7, 2) := by decide +kernel
theorem dX11_loses_111 : decode cX11_loses 111 = .ok (.invokevirtual 127, 3) := by decide +kernel
theorem dX11_loses_114 : decode cX11_loses 114 = .ok (.iastore, 1) := by decide +kernel
theorem dX11_loses_115 : decode cX11_loses 115 = .ok (.aload_n 0, 1) := by decide +kernel
theorem dX11_loses_116 : decode cX11_loses 116 = .ok (.iload_n 3, 1) := by decide +kernel
theorem dX11_loses_117 : decode cX11_loses 117 = .ok (.invokevirtual 176, 3) := by decide +kernel
theorem dX11_loses_120 : decode cX11_loses 120 = .ok (.iload_n 2, 1) := by decide +kernel
theorem dX11_loses_121 : decode cX11_loses 121 = .ok (.iconst 1, 1) := by decide +kernel
theorem dX11_loses_122 : decode cX11_loses 122 = .ok (.iload_n 3, 1) := by decide +kernel
theorem dX11_loses_123 : decode cX11_loses 123 = .ok (.ishl, 1) := by decide +kernel
theorem dX11_loses_124 : decode cX11_loses 124 = .ok (.ior, 1) := by decide +kernel
theorem dX11_loses_125 : decode cX11_loses 125 = .ok (.istore_n 2, 1) := by decide +kernel
theorem dX11_loses_126 : decode cX11_loses 126 = .ok (.iinc 3 1, 3) := by decide +kernel
theorem dX11_loses_129 : decode cX11_loses 129 = .ok (.goto (-113), 3) := by decide +kernel
theorem dX11_loses_132 : decode cX11_loses 132 = .ok (.aload_n 0, 1) := by decide +kernel
theorem dX11_loses_133 : decode cX11_loses 133 = .ok (.iload_n 2, 1) := by decide +kernel
theorem dX11_loses_134 : decode cX11_loses 134 = .ok (.invokevirtual 211, 3) := by decide +kernel
theorem dX11_loses_137 : decode cX11_loses 137 = .ok (.return_, 1) := by decide +kernel
theorem dX11_misses_0 : decode cX11_misses 0 = .ok (.aload_n 0, 1) := by decide +kernel
theorem dX11_misses_1 : decode cX11_misses 1 = .ok (.iconst 0, 1) := by decide +kernel
theorem dX11_misses_2 : decode cX11_misses 2 = .ok (.putfield 62, 3) := by decide +kernel
theorem dX11_misses_5 : decode cX11_misses 5 = .ok (.aload_n 0, 1) := by decide +kernel
theorem dX11_misses_6 : decode cX11_misses 6 = .ok (.iload_n 1, 1) := by decide +kernel
theorem dX11_misses_7 : decode cX11_misses 7 = .ok (.invokevirtual 117, 3) := by decide +kernel
theorem dX11_misses_10 : decode cX11_misses 10 = .ok (.ifCond .ne 5, 3) := by decide +kernel
theorem dX11_misses_13 : decode cX11_misses 13 = .ok (.iconst (-1), 1) := by decide +kernel
theorem dX11_misses_14 : decode cX11_misses 14 = .ok (.ireturn, 1) := by decide +kernel
theorem dX11_misses_15 : decode cX11_misses 15 = .ok (.aload_n 0, 1) := by decide +kernel
theorem dX11_misses_16 : decode cX11_misses 16 = .ok (.iload_n 1, 1) := by decide +kernel
theorem dX11_misses_17 : decode cX11_misses 17 = .ok (.invokevirtual 120, 3) := by decide +kernel
theorem dX11_misses_20 : decode cX11_misses 20 = .ok (.ifCond .eq 6, 3) := by decide +kernel
theorem dX11_misses_23 : decode cX11_misses 23 = .ok (.bipush (-2), 2) := by decide +kernel
theorem dX11_misses_25 : decode cX11_misses 25 = .ok (.ireturn, 1) := by decide +kernel
theorem dX11_misses_26 : decode cX11_misses 26 = .ok (.aload_n 0, 1) := by decide +kernel
theorem dX11_misses_27 : decode cX11_misses 27 = .ok (.invokevirtual 208, 3) := by decide +kernel
theorem dX11_misses_30 : decode cX11_misses 30 = .ok (.aload_n 0, 1) := by decide +kernel
theorem dX11_misses_31 : decode cX11_misses 31 = .ok (.iload_n 1, 1) := by decide +kernel
theorem dX11_misses_32 : decode cX11_misses 32 = .ok (.invokevirtual 226, 3) := by decide +kernel
theorem dX11_misses_35 : decode cX11_misses 35 = .ok (.aload_n 0, 1) := by decide +kernel
theorem dX11_misses_36 : decode cX11_misses 36 = .ok (.iconst 0, 1) := by decide +kernel
theorem dX11_misses_37 : decode cX11_misses 37 = .ok (.invokevirtual 229, 3) := by decide +kernel
theorem dX11_misses_40 : decode cX11_misses 40 = .ok (.ireturn, 1) := by decide +kernel
theorem dX11_finds_0 : decode cX11_finds 0 = .ok (.aload_n 0, 1) := by decide +kernel
theorem dX11_finds_1 : decode cX11_finds 1 = .ok (.iconst 0, 1) := by decide +kernel
theorem dX11_finds_2 : decode cX11_finds 2 = .ok (.putfield 62, 3) := by decide +kernel
theorem dX11_finds_5 : decode cX11_finds 5 = .ok (.aload_n 0, 1) := by decide +kernel
theorem dX11_finds_6 : decode cX11_finds 6 = .ok (.iload_n 1, 1) := by decide +kernel
theorem dX11_finds_7 : decode cX11_finds 7 = .ok (.invokevirtual 117, 3) := by decide +kernel
theorem dX11_finds_10 : decode cX11_finds 10 = .ok (.ifCond .ne 5, 3) := by decide +kernel
theorem dX11_finds_13 : decode cX11_finds 13 = .ok (.iconst (-1), 1) := by decide +kernel
theorem dX11_finds_14 : decode cX11_finds 14 = .ok (.ireturn, 1) := by decide +kernel
theorem dX11_finds_15 : decode cX11_finds 15 = .ok (.aload_n 0, 1) := by decide +kernel
theorem dX11_finds_16 : decode cX11_finds 16 = .ok (.iload_n 1, 1) := by decide +kernel
theorem dX11_finds_17 : decode cX11_finds 17 = .ok (.invokevirtual 120, 3) := by decide +kernel
theorem dX11_finds_20 : decode cX11_finds 20 = .ok (.ifCond .ne 6, 3) := by decide +kernel
theorem dX11_finds_23 : decode cX11_finds 23 = .ok (.bipush (-2), 2) := by decide +kernel
theorem dX11_finds_25 : decode cX11_finds 25 = .ok (.ireturn, 1) := by decide +kernel
theorem dX11_finds_26 : decode cX11_finds 26 = .ok (.aload_n 0, 1) := by decide +kernel
theorem dX11_finds_27 : decode cX11_finds 27 = .ok (.invokevirtual 208, 3) := by decide +kernel
theorem dX11_finds_30 : decode cX11_finds 30 = .ok (.aload_n 0, 1) := by decide +kernel
theorem dX11_finds_31 : decode cX11_finds 31 = .ok (.getfield 16, 3) := by decide +kernel
theorem dX11_finds_34 : decode cX11_finds 34 = .ok (.iconst 1, 1) := by decide +kernel
theorem dX11_finds_35 : decode cX11_finds 35 = .ok (.dup2, 1) := by decide +kernel
theorem dX11_finds_36 : decode cX11_finds 36 = .ok (.iaload, 1) := by decide +kernel
theorem dX11_finds_37 : decode cX11_finds 37 = .ok (.iconst 1, 1) := by decide +kernel
theorem dX11_finds_38 : decode cX11_finds 38 = .ok (.iload_n 1, 1) := by decide +kernel
theorem dX11_finds_39 : decode cX11_finds 39 = .ok (.ishl, 1) := by decide +kernel
theorem dX11_finds_40 : decode cX11_finds 40 = .ok (.iconst (-1), 1) := by decide +kernel
theorem dX11_finds_41 : decode cX11_finds 41 = .ok (.ixor, 1) := by decide +kernel
theorem dX11_finds_42 : decode cX11_finds 42 = .ok (.iand, 1) := by decide +kernel
theorem dX11_finds_43 : decode cX11_finds 43 = .ok (.iastore, 1) := by decide +kernel
theorem dX11_finds_44 : decode cX11_finds 44 = .ok (.iconst 0, 1) := by decide +kernel
theorem dX11_finds_45 : decode cX11_finds 45 = .ok (.istore_n 2, 1) := by decide +kernel
theorem dX11_finds_46 : decode cX11_finds 46 = .ok (.iconst 0, 1) := by decide +kernel
theorem dX11_finds_47 : decode cX11_finds 47 = .ok (.istore_n 3, 1) := by decide +kernel
theorem dX11_finds_48 : decode cX11_finds 48 = .ok (.iload_n 3, 1) := by decide +kernel
theorem dX11_finds_49 : decode cX11_finds 49 = .ok (.aload_n 0, 1) := by decide +kernel
theorem dX11_finds_50 : decode cX11_finds 50 = .ok (.getfield 16, 3) := by decide +kernel
theorem dX11_finds_53 : decode cX11_finds 53 = .ok (.iconst 2, 1) := by decide +kernel
theorem dX11_finds_54 : decode cX11_finds 54 = .ok (.iaload, 1) := by decide +kernel
theorem dX11_finds_55 : decode cX11_finds 55 = .ok (.if_icmp .ge 27, 3) := by decide +kernel
theorem dX11_finds_58 : decode cX11_finds 58 = .ok (.iload_n 2, 1) := by decide +kernel
theorem dX11_finds_59 : decode cX11_finds 59 = .ok (.aload_n 0, 1) := by decide +kernel
theorem dX11_finds_60 : decode cX11_finds 60 = .ok (.iload_n 3, 1) := by decide +kernel
theorem dX11_finds_61 : decode cX11_finds 61 = .ok (.invokevirtual 140, 3) := by decide +kernel
theorem dX11_finds_64 : decode cX11_finds 64 = .ok (.ifCond .ne 9, 3) := by decide +kernel
theorem dX11_finds_67 : decode cX11_finds 67 = .ok (.iconst 1, 1) := by decide +kernel
theorem dX11_finds_68 : decode cX11_finds 68 = .ok (.iload_n 3, 1) := by decide +kernel
theorem dX11_finds_69 : decode cX11_finds 69 = .ok (.ishl, 1) := by decide +kernel
theorem dX11_finds_70 : decode cX11_finds 70 = .ok (.goto 4, 3) := by decide +kernel
theorem dX11_finds_73 : decode cX11_finds 73 = .ok (.iconst 0, 1) := by decide +kernel
theorem dX11_finds_74 : decode cX11_finds 74 = .ok (.ior, 1) := by decide +kernel
theorem dX11_finds_75 : decode cX11_finds 75 = .ok (.istore_n 2, 1) := by decide +kernel
theorem dX11_finds_76 : decode cX11_finds 76 = .ok (.iinc 3 1, 3) := by decide +kernel
theorem dX11_finds_79 : decode cX11_finds 79 = .ok (.goto (-31), 3) := by decide +kernel
theorem dX11_finds_82 : decode cX11_finds 82 = .ok (.aload_n 0, 1) := by decide +kernel
theorem dX11_finds_83 : decode cX11_finds 83 = .ok (.iload_n 2, 1) := by decide +kernel
theorem dX11_finds_84 : decode cX11_finds 84 = .ok (.invokevirtual 211, 3) := by decide +kernel
theorem dX11_finds_87 : decode cX11_finds 87 = .ok (.aload_n 0, 1) := by decide +kernel
theorem dX11_finds_88 : decode cX11_finds 88 = .ok (.iconst 0, 1) := by decide +kernel
theorem dX11_finds_89 : decode cX11_finds 89 = .ok (.invokevirtual 229, 3) := by decide +kernel
theorem dX11_finds_92 : decode cX11_finds 92 = .ok (.ireturn, 1) := by decide +kernel
theorem dX11_undo_0 : decode cX11_undo 0 = .ok (.aload_n 0, 1) := by decide +kernel
theorem dX11_undo_1 : decode cX11_undo 1 = .ok (.iconst 0, 1) := by decide +kernel
theorem dX11_undo_2 : decode cX11_undo 2 = .ok (.putfield 62, 3) := by decide +kernel
theorem dX11_undo_5 : decode cX11_undo 5 = .ok (.aload_n 0, 1) := by decide +kernel
theorem dX11_undo_6 : decode cX11_undo 6 = .ok (.getfield 104, 3) := by decide +kernel
theorem dX11_undo_9 : decode cX11_undo 9 = .ok (.ifCond .ne 6, 3) := by decide +kernel
theorem dX11_undo_12 : decode cX11_undo 12 = .ok (.bipush (-2), 2) := by decide +kernel
theorem dX11_undo_14 : decode cX11_undo 14 = .ok (.ireturn, 1) := by decide +kernel
theorem dX11_undo_15 : decode cX11_undo 15 = .ok (.aload_n 0, 1) := by decide +kernel
theorem dX11_undo_16 : decode cX11_undo 16 = .ok (.dup, 1) := by decide +kernel
theorem dX11_undo_17 : decode cX11_undo 17 = .ok (.getfield 104, 3) := by decide +kernel
theorem dX11_undo_20 : decode cX11_undo 20 = .ok (.iconst 1, 1) := by decide +kernel
theorem dX11_undo_21 : decode cX11_undo 21 = .ok (.isub, 1) := by decide +kernel
theorem dX11_undo_22 : decode cX11_undo 22 = .ok (.putfield 104, 3) := by decide +kernel
theorem dX11_undo_25 : decode cX11_undo 25 = .ok (.aload_n 0, 1) := by decide +kernel
theorem dX11_undo_26 : decode cX11_undo 26 = .ok (.aload_n 0, 1) := by decide +kernel
theorem dX11_undo_27 : decode cX11_undo 27 = .ok (.getfield 19, 3) := by decide +kernel
theorem dX11_undo_30 : decode cX11_undo 30 = .ok (.aload_n 0, 1) := by decide +kernel
theorem dX11_undo_31 : decode cX11_undo 31 = .ok (.getfield 16, 3) := by decide +kernel
theorem dX11_undo_34 : decode cX11_undo 34 = .ok (.sipush 163, 3) := by decide +kernel
theorem dX11_undo_37 : decode cX11_undo 37 = .ok (.aload_n 0, 1) := by decide +kernel
theorem dX11_undo_38 : decode cX11_undo 38 = .ok (.getfield 104, 3) := by decide +kernel
theorem dX11_undo_41 : decode cX11_undo 41 = .ok (.imul, 1) := by decide +kernel
theorem dX11_undo_42 : decode cX11_undo 42 = .ok (.iconst 0, 1) := by decide +kernel
theorem dX11_undo_43 : decode cX11_undo 43 = .ok (.invokevirtual 201, 3) := by decide +kernel
theorem dX11_undo_46 : decode cX11_undo 46 = .ok (.aload_n 0, 1) := by decide +kernel
theorem dX11_undo_47 : decode cX11_undo 47 = .ok (.getfield 104, 3) := by decide +kernel
theorem dX11_undo_50 : decode cX11_undo 50 = .ok (.ireturn, 1) := by decide +kernel
theorem dX11_bundle_0 : decode cX11_bundle 0 = .ok (.aload_n 0, 1) := by decide +kernel
theorem dX11_bundle_1 : decode cX11_bundle 1 = .ok (.iconst 0, 1) := by decide +kernel
theorem dX11_bundle_2 : decode cX11_bundle 2 = .ok (.putfield 62, 3) := by decide +kernel
theorem dX11_bundle_5 : decode cX11_bundle 5 = .ok (.aload_n 0, 1) := by decide +kernel
theorem dX11_bundle_6 : decode cX11_bundle 6 = .ok (.iload_n 1, 1) := by decide +kernel
theorem dX11_bundle_7 : decode cX11_bundle 7 = .ok (.invokevirtual 217, 3) := by decide +kernel
theorem dX11_bundle_10 : decode cX11_bundle 10 = .ok (.ifCond .eq 13, 3) := by decide +kernel
theorem dX11_bundle_13 : decode cX11_bundle 13 = .ok (.iload_n 2, 1) := by decide +kernel
theorem dX11_bundle_14 : decode cX11_bundle 14 = .ok (.iconst 0, 1) := by decide +kernel
theorem dX11_bundle_15 : decode cX11_bundle 15 = .ok (.bipush 8, 2) := by decide +kernel
theorem dX11_bundle_17 : decode cX11_bundle 17 = .ok (.invokestatic 69, 3) := by decide +kernel
theorem dX11_bundle_20 : decode cX11_bundle 20 = .ok (.ifCond .ne 5, 3) := by decide +kernel
theorem dX11_bundle_23 : decode cX11_bundle 23 = .ok (.iconst (-1), 1) := by decide +kernel
theorem dX11_bundle_24 : decode cX11_bundle 24 = .ok (.ireturn, 1) := by decide +kernel
theorem dX11_bundle_25 : decode cX11_bundle 25 = .ok (.aload_n 0, 1) := by decide +kernel
theorem dX11_bundle_26 : decode cX11_bundle 26 = .ok (.iload_n 1, 1) := by decide +kernel
theorem dX11_bundle_27 : decode cX11_bundle 27 = .ok (.invokevirtual 140, 3) := by decide +kernel
theorem dX11_bundle_30 : decode cX11_bundle 30 = .ok (.istore_n 3, 1) := by decide +kernel
theorem dX11_bundle_31 : decode cX11_bundle 31 = .ok (.iload_n 2, 1) := by decide +kernel
theorem dX11_bundle_32 : decode cX11_bundle 32 = .ok (.tableswitch 113 0 7 #[48, 50, 57, 63, 85, 92, 99, 106], 48) := by decide +kernel
theorem dX11_bundle_80 : decode cX11_bundle 80 = .ok (.iload_n 3, 1) := by decide +kernel
theorem dX11_bundle_81 : decode cX11_bundle 81 = .ok (.ireturn, 1) := by decide +kernel
theorem dX11_bundle_82 : decode cX11_bundle 82 = .ok (.aload_n 0, 1) := by decide +kernel
theorem dX11_bundle_83 : decode cX11_bundle 83 = .ok (.iload_n 1, 1) := by decide +kernel
theorem dX11_bundle_84 : decode cX11_bundle 84 = .ok (.iconst 4, 1) := by decide +kernel
theorem dX11_bundle_85 : decode cX11_bundle 85 = .ok (.invokevirtual 127, 3) := by decide +kernel
theorem dX11_bundle_88 : decode cX11_bundle 88 = .ok (.ireturn, 1) := by decide +kernel
theorem dX11_bundle_89 : decode cX11_bundle 89 = .ok (.aload_n 0, 1) := by decide +kernel
theorem dX11_bundle_90 : decode cX11_bundle 90 = .ok (.iload_n 1, 1) := by decide +kernel
theorem dX11_bundle_91 : decode cX11_bundle 91 = .ok (.invokevirtual 214, 3) := by decide +kernel
theorem dX11_bundle_94 : decode cX11_bundle 94 = .ok (.ireturn, 1) := by decide +kernel
theorem dX11_bundle_95 : decode cX11_bundle 95 = .ok (.aload_n 0, 1) := by decide +kernel
theorem dX11_bundle_96 : decode cX11_bundle 96 = .ok (.iload_n 1, 1) := by decide +kernel
theorem dX11_bundle_97 : decode cX11_bundle 97 = .ok (.bipush 9, 2) := by decide +kernel
theorem dX11_bundle_99 : decode cX11_bundle 99 = .ok (.invokevirtual 127, 3) := by decide +kernel
theorem dX11_bundle_102 : decode cX11_bundle 102 = .ok (.aload_n 0, 1) := by decide +kernel
theorem dX11_bundle_103 : decode cX11_bundle 103 = .ok (.iload_n 1, 1) := by decide +kernel
theorem dX11_bundle_104 : decode cX11_bundle 104 = .ok (.invokevirtual 134, 3) := by decide +kernel
theorem dX11_bundle_107 : decode cX11_bundle 107 = .ok (.ifCond .eq 7, 3) := by decide +kernel
theorem dX11_bundle_110 : decode cX11_bundle 110 = .ok (.iconst 1, 1) := by decide +kernel
theorem dX11_bundle_111 : decode cX11_bundle 111 = .ok (.goto 4, 3) := by decide +kernel
theorem dX11_bundle_114 : decode cX11_bundle 114 = .ok (.iconst 0, 1) := by decide +kernel
theorem dX11_bundle_115 : decode cX11_bundle 115 = .ok (.iadd, 1) := by decide +kernel
theorem dX11_bundle_116 : decode cX11_bundle 116 = .ok (.ireturn, 1) := by decide +kernel
theorem dX11_bundle_117 : decode cX11_bundle 117 = .ok (.aload_n 0, 1) := by decide +kernel
theorem dX11_bundle_118 : decode cX11_bundle 118 = .ok (.iload_n 1, 1) := by decide +kernel
theorem dX11_bundle_119 : decode cX11_bundle 119 = .ok (.iconst 3, 1) := by decide +kernel
theorem dX11_bundle_120 : decode cX11_bundle 120 = .ok (.invokevirtual 127, 3) := by decide +kernel
theorem dX11_bundle_123 : decode cX11_bundle 123 = .ok (.ireturn, 1) := by decide +kernel
theorem dX11_bundle_124 : decode cX11_bundle 124 = .ok (.aload_n 0, 1) := by decide +kernel
theorem dX11_bundle_125 : decode cX11_bundle 125 = .ok (.iload_n 1, 1) := by decide +kernel
theorem dX11_bundle_126 : decode cX11_bundle 126 = .ok (.iconst 0, 1) := by decide +kernel
theorem dX11_bundle_127 : decode cX11_bundle 127 = .ok (.invokevirtual 127, 3) := by decide +kernel
theorem dX11_bundle_130 : decode cX11_bundle 130 = .ok (.ireturn, 1) := by decide +kernel
theorem dX11_bundle_131 : decode cX11_bundle 131 = .ok (.aload_n 0, 1) := by decide +kernel
theorem dX11_bundle_132 : decode cX11_bundle 132 = .ok (.iload_n 1, 1) := by decide +kernel
theorem dX11_bundle_133 : decode cX11_bundle 133 = .ok (.iconst 2, 1) := by decide +kernel
theorem dX11_bundle_134 : decode cX11_bundle 134 = .ok (.invokevirtual 127, 3) := by decide +kernel
theorem dX11_bundle_137 : decode cX11_bundle 137 = .ok (.ireturn, 1) := by decide +kernel
theorem dX11_bundle_138 : decode cX11_bundle 138 = .ok (.aload_n 0, 1) := by decide +kernel
theorem dX11_bundle_139 : decode cX11_bundle 139 = .ok (.iload_n 1, 1) := by decide +kernel
theorem dX11_bundle_140 : decode cX11_bundle 140 = .ok (.iconst 1, 1) := by decide +kernel
theorem dX11_bundle_141 : decode cX11_bundle 141 = .ok (.invokevirtual 127, 3) := by decide +kernel
theorem dX11_bundle_144 : decode cX11_bundle 144 = .ok (.ireturn, 1) := by decide +kernel
theorem dX11_bundle_145 : decode cX11_bundle 145 = .ok (.iload_n 3, 1) := by decide +kernel
theorem dX11_bundle_146 : decode cX11_bundle 146 = .ok (.ifCond .ne 13, 3) := by decide +kernel
theorem dX11_bundle_149 : decode cX11_bundle 149 = .ok (.aload_n 0, 1) := by decide +kernel
theorem dX11_bundle_150 : decode cX11_bundle 150 = .ok (.iload_n 1, 1) := by decide +kernel
theorem dX11_bundle_151 : decode cX11_bundle 151 = .ok (.bipush 6, 2) := by decide +kernel
theorem dX11_bundle_153 : decode cX11_bundle 153 = .ok (.invokevirtual 127, 3) := by decide +kernel
theorem dX11_bundle_156 : decode cX11_bundle 156 = .ok (.goto 5, 3) := by decide +kernel
theorem dX11_bundle_159 : decode cX11_bundle 159 = .ok (.bipush (-9), 2) := by decide +kernel
theorem dX11_bundle_161 : decode cX11_bundle 161 = .ok (.ireturn, 1) := by decide +kernel
theorem dX11_hop_0 : decode cX11_hop 0 = .ok (.aload_n 0, 1) := by decide +kernel
theorem dX11_hop_1 : decode cX11_hop 1 = .ok (.iconst 0, 1) := by decide +kernel
theorem dX11_hop_2 : decode cX11_hop 2 = .ok (.putfield 62, 3) := by decide +kernel
theorem dX11_hop_5 : decode cX11_hop 5 = .ok (.aload_n 0, 1) := by decide +kernel
theorem dX11_hop_6 : decode cX11_hop 6 = .ok (.iload_n 1, 1) := by decide +kernel
theorem dX11_hop_7 : decode cX11_hop 7 = .ok (.invokevirtual 217, 3) := by decide +kernel
theorem dX11_hop_10 : decode cX11_hop 10 = .ok (.ifCond .eq 16, 3) := by decide +kernel
theorem dX11_hop_13 : decode cX11_hop 13 = .ok (.iload_n 2, 1) := by decide +kernel
theorem dX11_hop_14 : decode cX11_hop 14 = .ok (.ifCond .lt 12, 3) := by decide +kernel
theorem dX11_hop_17 : decode cX11_hop 17 = .ok (.iload_n 3, 1) := by decide +kernel
theorem dX11_hop_18 : decode cX11_hop 18 = .ok (.iconst 0, 1) := by decide +kernel
theorem dX11_hop_19 : decode cX11_hop 19 = .ok (.iconst 1, 1) := by decide +kernel
theorem dX11_hop_20 : decode cX11_hop 20 = .ok (.invokestatic 69, 3) := by decide +kernel
theorem dX11_hop_23 : decode cX11_hop 23 = .ok (.ifCond .ne 5, 3) := by decide +kernel
theorem dX11_hop_26 : decode cX11_hop 26 = .ok (.iconst (-1), 1) := by decide +kernel
theorem dX11_hop_27 : decode cX11_hop 27 = .ok (.ireturn, 1) := by decide +kernel
theorem dX11_hop_28 : decode cX11_hop 28 = .ok (.aload_n 0, 1) := by decide +kernel
theorem dX11_hop_29 : decode cX11_hop 29 = .ok (.iload_n 1, 1) := by decide +kernel
theorem dX11_hop_30 : decode cX11_hop 30 = .ok (.invokevirtual 134, 3) := by decide +kernel
theorem dX11_hop_33 : decode cX11_hop 33 = .ok (.ifCond .eq 17, 3) := by decide +kernel
theorem dX11_hop_36 : decode cX11_hop 36 = .ok (.iload_n 2, 1) := by decide +kernel
theorem dX11_hop_37 : decode cX11_hop 37 = .ok (.ifCond .ne 13, 3) := by decide +kernel
theorem dX11_hop_40 : decode cX11_hop 40 = .ok (.aload_n 0, 1) := by decide +kernel
theorem dX11_hop_41 : decode cX11_hop 41 = .ok (.iload_n 1, 1) := by decide +kernel
theorem dX11_hop_42 : decode cX11_hop 42 = .ok (.bipush 7, 2) := by decide +kernel
theorem dX11_hop_44 : decode cX11_hop 44 = .ok (.iload_n 3, 1) := by decide +kernel
theorem dX11_hop_45 : decode cX11_hop 45 = .ok (.iadd, 1) := by decide +kernel
theorem dX11_hop_46 : decode cX11_hop 46 = .ok (.invokevirtual 127, 3) := by decide +kernel
theorem dX11_hop_49 : decode cX11_hop 49 = .ok (.ireturn, 1) := by decide +kernel
theorem dX11_hop_50 : decode cX11_hop 50 = .ok (.aload_n 0, 1) := by decide +kernel
theorem dX11_hop_51 : decode cX11_hop 51 = .ok (.iload_n 1, 1) := by decide +kernel
theorem dX11_hop_52 : decode cX11_hop 52 = .ok (.invokevirtual 134, 3) := by decide +kernel
theorem dX11_hop_55 : decode cX11_hop 55 = .ok (.ifCond .eq 9, 3) := by decide +kernel
theorem dX11_hop_58 : decode cX11_hop 58 = .ok (.iload_n 2, 1) := by decide +kernel
theorem dX11_hop_59 : decode cX11_hop 59 = .ok (.iconst 1, 1) := by decide +kernel
theorem dX11_hop_60 : decode cX11_hop 60 = .ok (.isub, 1) := by decide +kernel
theorem dX11_hop_61 : decode cX11_hop 61 = .ok (.goto 4, 3) := by decide +kernel
theorem dX11_hop_64 : decode cX11_hop 64 = .ok (.iload_n 2, 1) := by decide +kernel
theorem dX11_hop_65 : decode cX11_hop 65 = .ok (.istore 4, 2) := by decide +kernel
theorem dX11_hop_67 : decode cX11_hop 67 = .ok (.iload 4, 2) := by decide +kernel
theorem dX11_hop_69 : decode cX11_hop 69 = .ok (.aload_n 0, 1) := by decide +kernel
theorem dX11_hop_70 : decode cX11_hop 70 = .ok (.iload_n 1, 1) := by decide +kernel
theorem dX11_hop_71 : decode cX11_hop 71 = .ok (.bipush 9, 2) := by decide +kernel
theorem dX11_hop_73 : decode cX11_hop 73 = .ok (.invokevirtual 127, 3) := by decide +kernel
theorem dX11_hop_76 : decode cX11_hop 76 = .ok (.if_icmp .ge 20, 3) := by decide +kernel
theorem dX11_hop_79 : decode cX11_hop 79 = .ok (.aload_n 0, 1) := by decide +kernel
theorem dX11_hop_80 : decode cX11_hop 80 = .ok (.iload_n 1, 1) := by decide +kernel
theorem dX11_hop_81 : decode cX11_hop 81 = .ok (.bipush 10, 2) := by decide +kernel
theorem dX11_hop_83 : decode cX11_hop 83 = .ok (.iconst 2, 1) := by decide +kernel
theorem dX11_hop_84 : decode cX11_hop 84 = .ok (.iload 4, 2) := by decide +kernel
theorem dX11_hop_86 : decode cX11_hop 86 = .ok (.imul, 1) := by decide +kernel
theorem dX11_hop_87 : decode cX11_hop 87 = .ok (.iadd, 1) := by decide +kernel
theorem dX11_hop_88 : decode cX11_hop 88 = .ok (.iload_n 3, 1) := by decide +kernel
theorem dX11_hop_89 : decode cX11_hop 89 = .ok (.iadd, 1) := by decide +kernel
theorem dX11_hop_90 : decode cX11_hop 90 = .ok (.invokevirtual 127, 3) := by decide +kernel
theorem dX11_hop_93 : decode cX11_hop 93 = .ok (.goto 5, 3) := by decide +kernel
theorem dX11_hop_96 : decode cX11_hop 96 = .ok (.bipush (-9), 2) := by decide +kernel
theorem dX11_hop_98 : decode cX11_hop 98 = .ok (.ireturn, 1) := by decide +kernel
theorem dX11_takesTick_0 : decode cX11_takesTick 0 = .ok (.iload 4, 2) := by decide +kernel
theorem dX11_takesTick_2 : decode cX11_takesTick 2 = .ok (.iload_n 3, 1) := by decide +kernel
theorem dX11_takesTick_3 : decode cX11_takesTick 3 = .ok (.if_icmp .lt 25, 3) := by decide +kernel
theorem dX11_takesTick_6 : decode cX11_takesTick 6 = .ok (.iload 4, 2) := by decide +kernel
theorem dX11_takesTick_8 : decode cX11_takesTick 8 = .ok (.iload_n 3, 1) := by decide +kernel
theorem dX11_takesTick_9 : decode cX11_takesTick 9 = .ok (.aload_n 0, 1) := by decide +kernel
theorem dX11_takesTick_10 : decode cX11_takesTick 10 = .ok (.aload_n 0, 1) := by decide +kernel
theorem dX11_takesTick_11 : decode cX11_takesTick 11 = .ok (.iload_n 1, 1) := by decide +kernel
theorem dX11_takesTick_12 : decode cX11_takesTick 12 = .ok (.iconst 0, 1) := by decide +kernel
theorem dX11_takesTick_13 : decode cX11_takesTick 13 = .ok (.invokevirtual 127, 3) := by decide +kernel
theorem dX11_takesTick_16 : decode cX11_takesTick 16 = .ok (.iload_n 2, 1) := by decide +kernel
theorem dX11_takesTick_17 : decode cX11_takesTick 17 = .ok (.invokevirtual 131, 3) := by decide +kernel
theorem dX11_takesTick_20 : decode cX11_takesTick 20 = .ok (.iadd, 1) := by decide +kernel
theorem dX11_takesTick_21 : decode cX11_takesTick 21 = .ok (.if_icmp .ge 7, 3) := by decide +kernel
theorem dX11_takesTick_24 : decode cX11_takesTick 24 = .ok (.iconst 1, 1) := by decide +kernel
theorem dX11_takesTick_25 : decode cX11_takesTick 25 = .ok (.goto 4, 3) := by decide +kernel
theorem dX11_takesTick_28 : decode cX11_takesTick 28 = .ok (.iconst 0, 1) := by decide +kernel
theorem dX11_takesTick_29 : decode cX11_takesTick 29 = .ok (.ireturn, 1) := by decide +kernel
theorem dX11_tick_0 : decode cX11_tick 0 = .ok (.aload_n 0, 1) := by decide +kernel
theorem dX11_tick_1 : decode cX11_tick 1 = .ok (.iconst 0, 1) := by decide +kernel
theorem dX11_tick_2 : decode cX11_tick 2 = .ok (.putfield 62, 3) := by decide +kernel
theorem dX11_tick_5 : decode cX11_tick 5 = .ok (.aload_n 0, 1) := by decide +kernel
theorem dX11_tick_6 : decode cX11_tick 6 = .ok (.iload_n 1, 1) := by decide +kernel
theorem dX11_tick_7 : decode cX11_tick 7 = .ok (.invokevirtual 117, 3) := by decide +kernel
theorem dX11_tick_10 : decode cX11_tick 10 = .ok (.ifCond .eq 18, 3) := by decide +kernel
theorem dX11_tick_13 : decode cX11_tick 13 = .ok (.iload_n 2, 1) := by decide +kernel
theorem dX11_tick_14 : decode cX11_tick 14 = .ok (.aload_n 0, 1) := by decide +kernel
theorem dX11_tick_15 : decode cX11_tick 15 = .ok (.getfield 16, 3) := by decide +kernel
theorem dX11_tick_18 : decode cX11_tick 18 = .ok (.iconst 0, 1) := by decide +kernel
theorem dX11_tick_19 : decode cX11_tick 19 = .ok (.iaload, 1) := by decide +kernel
theorem dX11_tick_20 : decode cX11_tick 20 = .ok (.bipush 99, 2) := by decide +kernel
theorem dX11_tick_22 : decode cX11_tick 22 = .ok (.invokestatic 69, 3) := by decide +kernel
theorem dX11_tick_25 : decode cX11_tick 25 = .ok (.ifCond .ne 5, 3) := by decide +kernel
theorem dX11_tick_28 : decode cX11_tick 28 = .ok (.iconst (-1), 1) := by decide +kernel
theorem dX11_tick_29 : decode cX11_tick 29 = .ok (.ireturn, 1) := by decide +kernel
theorem dX11_tick_30 : decode cX11_tick 30 = .ok (.iconst 0, 1) := by decide +kernel
theorem dX11_tick_31 : decode cX11_tick 31 = .ok (.istore_n 3, 1) := by decide +kernel
theorem dX11_tick_32 : decode cX11_tick 32 = .ok (.iload_n 3, 1) := by decide +kernel
theorem dX11_tick_33 : decode cX11_tick 33 = .ok (.aload_n 0, 1) := by decide +kernel
theorem dX11_tick_34 : decode cX11_tick 34 = .ok (.getfield 16, 3) := by decide +kernel
theorem dX11_tick_37 : decode cX11_tick 37 = .ok (.iconst 2, 1) := by decide +kernel
theorem dX11_tick_38 : decode cX11_tick 38 = .ok (.iaload, 1) := by decide +kernel
theorem dX11_tick_39 : decode cX11_tick 39 = .ok (.if_icmp .ge 124, 3) := by decide +kernel
theorem dX11_tick_42 : decode cX11_tick 42 = .ok (.aload_n 0, 1) := by decide +kernel
theorem dX11_tick_43 : decode cX11_tick 43 = .ok (.iload_n 3, 1) := by decide +kernel
theorem dX11_tick_44 : decode cX11_tick 44 = .ok (.bipush 7, 2) := by decide +kernel
theorem dX11_tick_46 : decode cX11_tick 46 = .ok (.invokevirtual 127, 3) := by decide +kernel
theorem dX11_tick_49 : decode cX11_tick 49 = .ok (.iload_n 1, 1) := by decide +kernel
theorem dX11_tick_50 : decode cX11_tick 50 = .ok (.if_icmp .ne 24, 3) := by decide +kernel
theorem dX11_tick_53 : decode cX11_tick 53 = .ok (.aload_n 0, 1) := by decide +kernel
theorem dX11_tick_54 : decode cX11_tick 54 = .ok (.iload_n 3, 1) := by decide +kernel
theorem dX11_tick_55 : decode cX11_tick 55 = .ok (.iload_n 1, 1) := by decide +kernel
theorem dX11_tick_56 : decode cX11_tick 56 = .ok (.aload_n 0, 1) := by decide +kernel
theorem dX11_tick_57 : decode cX11_tick 57 = .ok (.iload_n 3, 1) := by decide +kernel
theorem dX11_tick_58 : decode cX11_tick 58 = .ok (.bipush 8, 2) := by decide +kernel
theorem dX11_tick_60 : decode cX11_tick 60 = .ok (.invokevirtual 127, 3) := by decide +kernel
theorem dX11_tick_63 : decode cX11_tick 63 = .ok (.iload_n 2, 1) := by decide +kernel
theorem dX11_tick_64 : decode cX11_tick 64 = .ok (.invokevirtual 232, 3) := by decide +kernel
theorem dX11_tick_67 : decode cX11_tick 67 = .ok (.ifCond .eq 7, 3) := by decide +kernel
theorem dX11_tick_70 : decode cX11_tick 70 = .ok (.iconst 1, 1) := by decide +kernel
theorem dX11_tick_71 : decode cX11_tick 71 = .ok (.goto 4, 3) := by decide +kernel
theorem dX11_tick_74 : decode cX11_tick 74 = .ok (.iconst 0, 1) := by decide +kernel
theorem dX11_tick_75 : decode cX11_tick 75 = .ok (.istore 4, 2) := by decide +kernel
theorem dX11_tick_77 : decode cX11_tick 77 = .ok (.iconst 0, 1) := by decide +kernel
theorem dX11_tick_78 : decode cX11_tick 78 = .ok (.istore 5, 2) := by decide +kernel
theorem dX11_tick_80 : decode cX11_tick 80 = .ok (.iload 5, 2) := by decide +kernel
theorem dX11_tick_82 : decode cX11_tick 82 = .ok (.aload_n 0, 1) := by decide +kernel
theorem dX11_tick_83 : decode cX11_tick 83 = .ok (.iload_n 3, 1) := by decide +kernel
theorem dX11_tick_84 : decode cX11_tick 84 = .ok (.bipush 9, 2) := by decide +kernel
theorem dX11_tick_86 : decode cX11_tick 86 = .ok (.invokevirtual 127, 3) := by decide +kernel
theorem dX11_tick_89 : decode cX11_tick 89 = .ok (.if_icmp .ge 61, 3) := by decide +kernel
theorem dX11_tick_92 : decode cX11_tick 92 = .ok (.iload 4, 2) := by decide +kernel
theorem dX11_tick_94 : decode cX11_tick 94 = .ok (.ifCond .ne 43, 3) := by decide +kernel
theorem dX11_tick_97 : decode cX11_tick 97 = .ok (.aload_n 0, 1) := by decide +kernel
theorem dX11_tick_98 : decode cX11_tick 98 = .ok (.iload_n 3, 1) := by decide +kernel
theorem dX11_tick_99 : decode cX11_tick 99 = .ok (.bipush 10, 2) := by decide +kernel
theorem dX11_tick_101 : decode cX11_tick 101 = .ok (.iconst 2, 1) := by decide +kernel
theorem dX11_tick_102 : decode cX11_tick 102 = .ok (.iload 5, 2) := by decide +kernel
theorem dX11_tick_104 : decode cX11_tick 104 = .ok (.imul, 1) := by decide +kernel
theorem dX11_tick_105 : decode cX11_tick 105 = .ok (.iadd, 1) := by decide +kernel
theorem dX11_tick_106 : decode cX11_tick 106 = .ok (.invokevirtual 127, 3) := by decide +kernel
theorem dX11_tick_109 : decode cX11_tick 109 = .ok (.iload_n 1, 1) := by decide +kernel
theorem dX11_tick_110 : decode cX11_tick 110 = .ok (.if_icmp .ne 31, 3) := by decide +kernel
theorem dX11_tick_113 : decode cX11_tick 113 = .ok (.aload_n 0, 1) := by decide +kernel
theorem dX11_tick_114 : decode cX11_tick 114 = .ok (.iload_n 3, 1) := by decide +kernel
theorem dX11_tick_115 : decode cX11_tick 115 = .ok (.iload_n 1, 1) := by decide +kernel
theorem dX11_tick_116 : decode cX11_tick 116 = .ok (.aload_n 0, 1) := by decide +kernel
theorem dX11_tick_117 : decode cX11_tick 117 = .ok (.iload_n 3, 1) := by decide +kernel
theorem dX11_tick_118 : decode cX11_tick 118 = .ok (.bipush 10, 2) := by decide +kernel
theorem dX11_tick_120 : decode cX11_tick 120 = .ok (.iconst 2, 1) := by decide +kernel
theorem dX11_tick_121 : decode cX11_tick 121 = .ok (.iload 5, 2) := by decide +kernel
theorem dX11_tick_123 : decode cX11_tick 123 = .ok (.imul, 1) := by decide +kernel
theorem dX11_tick_124 : decode cX11_tick 124 = .ok (.iadd, 1) := by decide +kernel
theorem dX11_tick_125 : decode cX11_tick 125 = .ok (.iconst 1, 1) := by decide +kernel
theorem dX11_tick_126 : decode cX11_tick 126 = .ok (.iadd, 1) := by decide +kernel
theorem dX11_tick_127 : decode cX11_tick 127 = .ok (.invokevirtual 127, 3) := by decide +kernel
theorem dX11_tick_130 : decode cX11_tick 130 = .ok (.iload_n 2, 1) := by decide +kernel
theorem dX11_tick_131 : decode cX11_tick 131 = .ok (.invokevirtual 232, 3) := by decide +kernel
theorem dX11_tick_134 : decode cX11_tick 134 = .ok (.ifCond .eq 7, 3) := by decide +kernel
theorem dX11_tick_137 : decode cX11_tick 137 = .ok (.iconst 1, 1) := by decide +kernel
theorem dX11_tick_138 : decode cX11_tick 138 = .ok (.goto 4, 3) := by decide +kernel
theorem dX11_tick_141 : decode cX11_tick 141 = .ok (.iconst 0, 1) := by decide +kernel
theorem dX11_tick_142 : decode cX11_tick 142 = .ok (.istore 4, 2) := by decide +kernel
theorem dX11_tick_144 : decode cX11_tick 144 = .ok (.iinc 5 1, 3) := by decide +kernel
theorem dX11_tick_147 : decode cX11_tick 147 = .ok (.goto (-67), 3) := by decide +kernel
theorem dX11_tick_150 : decode cX11_tick 150 = .ok (.iload 4, 2) := by decide +kernel
theorem dX11_tick_152 : decode cX11_tick 152 = .ok (.ifCond .eq 5, 3) := by decide +kernel
theorem dX11_tick_155 : decode cX11_tick 155 = .ok (.iload_n 3, 1) := by decide +kernel
theorem dX11_tick_156 : decode cX11_tick 156 = .ok (.ireturn, 1) := by decide +kernel
theorem dX11_tick_157 : decode cX11_tick 157 = .ok (.iinc 3 1, 3) := by decide +kernel
theorem dX11_tick_160 : decode cX11_tick 160 = .ok (.goto (-128), 3) := by decide +kernel
theorem dX11_tick_163 : decode cX11_tick 163 = .ok (.bipush (-9), 2) := by decide +kernel
theorem dX11_tick_165 : decode cX11_tick 165 = .ok (.ireturn, 1) := by decide +kernel
theorem dX11_askedOf_0 : decode cX11_askedOf 0 = .ok (.iload_n 1, 1) := by decide +kernel
theorem dX11_askedOf_1 : decode cX11_askedOf 1 = .ok (.iload_n 2, 1) := by decide +kernel
theorem dX11_askedOf_2 : decode cX11_askedOf 2 = .ok (.if_icmp .ne 10, 3) := by decide +kernel
theorem dX11_askedOf_5 : decode cX11_askedOf 5 = .ok (.aload_n 0, 1) := by decide +kernel
theorem dX11_askedOf_6 : decode cX11_askedOf 6 = .ok (.getfield 16, 3) := by decide +kernel
theorem dX11_askedOf_9 : decode cX11_askedOf 9 = .ok (.iconst 0, 1) := by decide +kernel
theorem dX11_askedOf_10 : decode cX11_askedOf 10 = .ok (.iaload, 1) := by decide +kernel
theorem dX11_askedOf_11 : decode cX11_askedOf 11 = .ok (.ireturn, 1) := by decide +kernel
theorem dX11_askedOf_12 : decode cX11_askedOf 12 = .ok (.aload_n 0, 1) := by decide +kernel
theorem dX11_askedOf_13 : decode cX11_askedOf 13 = .ok (.bipush (-9), 2) := by decide +kernel
theorem dX11_askedOf_15 : decode cX11_askedOf 15 = .ok (.iload 4, 2) := by decide +kernel
theorem dX11_askedOf_17 : decode cX11_askedOf 17 = .ok (.invokevirtual 183, 3) := by decide +kernel
theorem dX11_askedOf_20 : decode cX11_askedOf 20 = .ok (.aload_n 0, 1) := by decide +kernel
theorem dX11_askedOf_21 : decode cX11_askedOf 21 = .ok (.iload_n 3, 1) := by decide +kernel
theorem dX11_askedOf_22 : decode cX11_askedOf 22 = .ok (.iload_n 1, 1) := by decide +kernel
theorem dX11_askedOf_23 : decode cX11_askedOf 23 = .ok (.aload_n 0, 1) := by decide +kernel
theorem dX11_askedOf_24 : decode cX11_askedOf 24 = .ok (.getfield 16, 3) := by decide +kernel
theorem dX11_askedOf_27 : decode cX11_askedOf 27 = .ok (.iconst 0, 1) := by decide +kernel
theorem dX11_askedOf_28 : decode cX11_askedOf 28 = .ok (.iaload, 1) := by decide +kernel
theorem dX11_askedOf_29 : decode cX11_askedOf 29 = .ok (.iload_n 2, 1) := by decide +kernel
theorem dX11_askedOf_30 : decode cX11_askedOf 30 = .ok (.iload 5, 2) := by decide +kernel
theorem dX11_askedOf_32 : decode cX11_askedOf 32 = .ok (.invokevirtual 187, 3) := by decide +kernel
theorem dX11_askedOf_35 : decode cX11_askedOf 35 = .ok (.ifCond .eq 10, 3) := by decide +kernel
theorem dX11_askedOf_38 : decode cX11_askedOf 38 = .ok (.aload_n 0, 1) := by decide +kernel
theorem dX11_askedOf_39 : decode cX11_askedOf 39 = .ok (.getfield 158, 3) := by decide +kernel
theorem dX11_askedOf_42 : decode cX11_askedOf 42 = .ok (.goto 5, 3) := by decide +kernel
theorem dX11_askedOf_45 : decode cX11_askedOf 45 = .ok (.bipush (-9), 2) := by decide +kernel
theorem dX11_askedOf_47 : decode cX11_askedOf 47 = .ok (.ireturn, 1) := by decide +kernel
theorem dX11_asks_0 : decode cX11_asks 0 = .ok (.aload_n 0, 1) := by decide +kernel
theorem dX11_asks_1 : decode cX11_asks 1 = .ok (.iconst 0, 1) := by decide +kernel
theorem dX11_asks_2 : decode cX11_asks 2 = .ok (.putfield 62, 3) := by decide +kernel
theorem dX11_asks_5 : decode cX11_asks 5 = .ok (.aload_n 0, 1) := by decide +kernel
theorem dX11_asks_6 : decode cX11_asks 6 = .ok (.iload_n 1, 1) := by decide +kernel
theorem dX11_asks_7 : decode cX11_asks 7 = .ok (.invokevirtual 205, 3) := by decide +kernel
theorem dX11_asks_10 : decode cX11_asks 10 = .ok (.ifCond .eq 31, 3) := by decide +kernel
theorem dX11_asks_13 : decode cX11_asks 13 = .ok (.aload_n 0, 1) := by decide +kernel
theorem dX11_asks_14 : decode cX11_asks 14 = .ok (.iload_n 2, 1) := by decide +kernel
theorem dX11_asks_15 : decode cX11_asks 15 = .ok (.invokevirtual 205, 3) := by decide +kernel
theorem dX11_asks_18 : decode cX11_asks 18 = .ok (.ifCond .eq 23, 3) := by decide +kernel
theorem dX11_asks_21 : decode cX11_asks 21 = .ok (.iload_n 3, 1) := by decide +kernel
theorem dX11_asks_22 : decode cX11_asks 22 = .ok (.iconst 1, 1) := by decide +kernel
theorem dX11_asks_23 : decode cX11_asks 23 = .ok (.bipush 20, 2) := by decide +kernel
theorem dX11_asks_25 : decode cX11_asks 25 = .ok (.invokestatic 69, 3) := by decide +kernel
theorem dX11_asks_28 : decode cX11_asks 28 = .ok (.ifCond .eq 13, 3) := by decide +kernel
theorem dX11_asks_31 : decode cX11_asks 31 = .ok (.iload 4, 2) := by decide +kernel
theorem dX11_asks_33 : decode cX11_asks 33 = .ok (.iconst 0, 1) := by decide +kernel
theorem dX11_asks_34 : decode cX11_asks 34 = .ok (.iconst 2, 1) := by decide +kernel
theorem dX11_asks_35 : decode cX11_asks 35 = .ok (.invokestatic 69, 3) := by decide +kernel
theorem dX11_asks_38 : decode cX11_asks 38 = .ok (.ifCond .ne 5, 3) := by decide +kernel
theorem dX11_asks_41 : decode cX11_asks 41 = .ok (.iconst (-1), 1) := by decide +kernel
theorem dX11_asks_42 : decode cX11_asks 42 = .ok (.ireturn, 1) := by decide +kernel
theorem dX11_asks_43 : decode cX11_asks 43 = .ok (.aload_n 0, 1) := by decide +kernel
theorem dX11_asks_44 : decode cX11_asks 44 = .ok (.iload_n 1, 1) := by decide +kernel
theorem dX11_asks_45 : decode cX11_asks 45 = .ok (.iload_n 2, 1) := by decide +kernel
theorem dX11_asks_46 : decode cX11_asks 46 = .ok (.iload_n 3, 1) := by decide +kernel
theorem dX11_asks_47 : decode cX11_asks 47 = .ok (.iload 4, 2) := by decide +kernel
theorem dX11_asks_49 : decode cX11_asks 49 = .ok (.bipush (-9), 2) := by decide +kernel
theorem dX11_asks_51 : decode cX11_asks 51 = .ok (.invokevirtual 235, 3) := by decide +kernel
theorem dX11_asks_54 : decode cX11_asks 54 = .ok (.ireturn, 1) := by decide +kernel
theorem dX11_largest_0 : decode cX11_largest 0 = .ok (.aload_n 0, 1) := by decide +kernel
theorem dX11_largest_1 : decode cX11_largest 1 = .ok (.iconst 0, 1) := by decide +kernel
theorem dX11_largest_2 : decode cX11_largest 2 = .ok (.putfield 62, 3) := by decide +kernel
theorem dX11_largest_5 : decode cX11_largest 5 = .ok (.aload_n 0, 1) := by decide +kernel
theorem dX11_largest_6 : decode cX11_largest 6 = .ok (.iload_n 1, 1) := by decide +kernel
theorem dX11_largest_7 : decode cX11_largest 7 = .ok (.invokevirtual 205, 3) := by decide +kernel
theorem dX11_largest_10 : decode cX11_largest 10 = .ok (.ifCond .eq 31, 3) := by decide +kernel
theorem dX11_largest_13 : decode cX11_largest 13 = .ok (.aload_n 0, 1) := by decide +kernel
theorem dX11_largest_14 : decode cX11_largest 14 = .ok (.iload_n 2, 1) := by decide +kernel
theorem dX11_largest_15 : decode cX11_largest 15 = .ok (.invokevirtual 205, 3) := by decide +kernel
theorem dX11_largest_18 : decode cX11_largest 18 = .ok (.ifCond .eq 23, 3) := by decide +kernel
theorem dX11_largest_21 : decode cX11_largest 21 = .ok (.iload_n 3, 1) := by decide +kernel
theorem dX11_largest_22 : decode cX11_largest 22 = .ok (.iconst 0, 1) := by decide +kernel
theorem dX11_largest_23 : decode cX11_largest 23 = .ok (.iconst 2, 1) := by decide +kernel
theorem dX11_largest_24 : decode cX11_largest 24 = .ok (.invokestatic 69, 3) := by decide +kernel
theorem dX11_largest_27 : decode cX11_largest 27 = .ok (.ifCond .eq 14, 3) := by decide +kernel
theorem dX11_largest_30 : decode cX11_largest 30 = .ok (.iload 4, 2) := by decide +kernel
theorem dX11_largest_32 : decode cX11_largest 32 = .ok (.iconst 0, 1) := by decide +kernel
theorem dX11_largest_33 : decode cX11_largest 33 = .ok (.bipush 120, 2) := by decide +kernel
theorem dX11_largest_35 : decode cX11_largest 35 = .ok (.invokestatic 69, 3) := by decide +kernel
theorem dX11_largest_38 : decode cX11_largest 38 = .ok (.ifCond .ne 5, 3) := by decide +kernel
theorem dX11_largest_41 : decode cX11_largest 41 = .ok (.iconst (-1), 1) := by decide +kernel
theorem dX11_largest_42 : decode cX11_largest 42 = .ok (.ireturn, 1) := by decide +kernel
theorem dX11_largest_43 : decode cX11_largest 43 = .ok (.bipush 20, 2) := by decide +kernel
theorem dX11_largest_45 : decode cX11_largest 45 = .ok (.istore 5, 2) := by decide +kernel
theorem dX11_largest_47 : decode cX11_largest 47 = .ok (.iload 5, 2) := by decide +kernel
theorem dX11_largest_49 : decode cX11_largest 49 = .ok (.ifCond .le 39, 3) := by decide +kernel
theorem dX11_largest_52 : decode cX11_largest 52 = .ok (.aload_n 0, 1) := by decide +kernel
theorem dX11_largest_53 : decode cX11_largest 53 = .ok (.iload_n 1, 1) := by decide +kernel
theorem dX11_largest_54 : decode cX11_largest 54 = .ok (.iload_n 2, 1) := by decide +kernel
theorem dX11_largest_55 : decode cX11_largest 55 = .ok (.iload 5, 2) := by decide +kernel
theorem dX11_largest_57 : decode cX11_largest 57 = .ok (.iload_n 3, 1) := by decide +kernel
theorem dX11_largest_58 : decode cX11_largest 58 = .ok (.bipush (-9), 2) := by decide +kernel
theorem dX11_largest_60 : decode cX11_largest 60 = .ok (.invokevirtual 235, 3) := by decide +kernel
theorem dX11_largest_63 : decode cX11_largest 63 = .ok (.istore 6, 2) := by decide +kernel
theorem dX11_largest_65 : decode cX11_largest 65 = .ok (.iload 6, 2) := by decide +kernel
theorem dX11_largest_67 : decode cX11_largest 67 = .ok (.bipush (-9), 2) := by decide +kernel
theorem dX11_largest_69 : decode cX11_largest 69 = .ok (.if_icmp .eq 13, 3) := by decide +kernel
theorem dX11_largest_72 : decode cX11_largest 72 = .ok (.iload 6, 2) := by decide +kernel
theorem dX11_largest_74 : decode cX11_largest 74 = .ok (.iload 4, 2) := by decide +kernel
theorem dX11_largest_76 : decode cX11_largest 76 = .ok (.if_icmp .gt 6, 3) := by decide +kernel
theorem dX11_largest_79 : decode cX11_largest 79 = .ok (.iload 5, 2) := by decide +kernel
theorem dX11_largest_81 : decode cX11_largest 81 = .ok (.ireturn, 1) := by decide +kernel
theorem dX11_largest_82 : decode cX11_largest 82 = .ok (.iinc 5 (-1), 3) := by decide +kernel
theorem dX11_largest_85 : decode cX11_largest 85 = .ok (.goto (-38), 3) := by decide +kernel
theorem dX11_largest_88 : decode cX11_largest 88 = .ok (.bipush (-9), 2) := by decide +kernel
theorem dX11_largest_90 : decode cX11_largest 90 = .ok (.ireturn, 1) := by decide +kernel
theorem dX11_worst_0 : decode cX11_worst 0 = .ok (.aload_n 0, 1) := by decide +kernel
theorem dX11_worst_1 : decode cX11_worst 1 = .ok (.iconst 0, 1) := by decide +kernel
theorem dX11_worst_2 : decode cX11_worst 2 = .ok (.putfield 62, 3) := by decide +kernel
theorem dX11_worst_5 : decode cX11_worst 5 = .ok (.bipush (-9), 2) := by decide +kernel
theorem dX11_worst_7 : decode cX11_worst 7 = .ok (.istore_n 1, 1) := by decide +kernel
theorem dX11_worst_8 : decode cX11_worst 8 = .ok (.iconst (-1), 1) := by decide +kernel
theorem dX11_worst_9 : decode cX11_worst 9 = .ok (.istore_n 2, 1) := by decide +kernel
theorem dX11_worst_10 : decode cX11_worst 10 = .ok (.aload_n 0, 1) := by decide +kernel
theorem dX11_worst_11 : decode cX11_worst 11 = .ok (.aload_n 0, 1) := by decide +kernel
theorem dX11_worst_12 : decode cX11_worst 12 = .ok (.getfield 16, 3) := by decide +kernel
theorem dX11_worst_15 : decode cX11_worst 15 = .ok (.aload_n 0, 1) := by decide +kernel
theorem dX11_worst_16 : decode cX11_worst 16 = .ok (.getfield 29, 3) := by decide +kernel
theorem dX11_worst_19 : decode cX11_worst 19 = .ok (.iconst 0, 1) := by decide +kernel
theorem dX11_worst_20 : decode cX11_worst 20 = .ok (.iconst 0, 1) := by decide +kernel
theorem dX11_worst_21 : decode cX11_worst 21 = .ok (.invokevirtual 201, 3) := by decide +kernel
theorem dX11_worst_24 : decode cX11_worst 24 = .ok (.iconst 0, 1) := by decide +kernel
theorem dX11_worst_25 : decode cX11_worst 25 = .ok (.istore_n 3, 1) := by decide +kernel
theorem dX11_worst_26 : decode cX11_worst 26 = .ok (.iload_n 3, 1) := by decide +kernel
theorem dX11_worst_27 : decode cX11_worst 27 = .ok (.aload_n 0, 1) := by decide +kernel
theorem dX11_worst_28 : decode cX11_worst 28 = .ok (.getfield 73, 3) := by decide +kernel
theorem dX11_worst_31 : decode cX11_worst 31 = .ok (.if_icmp .ge 68, 3) := by decide +kernel
theorem dX11_worst_34 : decode cX11_worst 34 = .ok (.aload_n 0, 1) := by decide +kernel
theorem dX11_worst_35 : decode cX11_worst 35 = .ok (.iload_n 3, 1) := by decide +kernel
theorem dX11_worst_36 : decode cX11_worst 36 = .ok (.invokevirtual 120, 3) := by decide +kernel
theorem dX11_worst_39 : decode cX11_worst 39 = .ok (.ifCond .ne 54, 3) := by decide +kernel
theorem dX11_worst_42 : decode cX11_worst 42 = .ok (.aload_n 0, 1) := by decide +kernel
theorem dX11_worst_43 : decode cX11_worst 43 = .ok (.iload_n 3, 1) := by decide +kernel
theorem dX11_worst_44 : decode cX11_worst 44 = .ok (.invokevirtual 226, 3) := by decide +kernel
theorem dX11_worst_47 : decode cX11_worst 47 = .ok (.aload_n 0, 1) := by decide +kernel
theorem dX11_worst_48 : decode cX11_worst 48 = .ok (.iconst 0, 1) := by decide +kernel
theorem dX11_worst_49 : decode cX11_worst 49 = .ok (.invokevirtual 229, 3) := by decide +kernel
theorem dX11_worst_52 : decode cX11_worst 52 = .ok (.istore 4, 2) := by decide +kernel
theorem dX11_worst_54 : decode cX11_worst 54 = .ok (.iload 4, 2) := by decide +kernel
theorem dX11_worst_56 : decode cX11_worst 56 = .ok (.iload_n 2, 1) := by decide +kernel
theorem dX11_worst_57 : decode cX11_worst 57 = .ok (.if_icmp .le 7, 3) := by decide +kernel
theorem dX11_worst_60 : decode cX11_worst 60 = .ok (.iload_n 3, 1) := by decide +kernel
theorem dX11_worst_61 : decode cX11_worst 61 = .ok (.goto 4, 3) := by decide +kernel
theorem dX11_worst_64 : decode cX11_worst 64 = .ok (.iload_n 1, 1) := by decide +kernel
theorem dX11_worst_65 : decode cX11_worst 65 = .ok (.istore_n 1, 1) := by decide +kernel
theorem dX11_worst_66 : decode cX11_worst 66 = .ok (.iload 4, 2) := by decide +kernel
theorem dX11_worst_68 : decode cX11_worst 68 = .ok (.iload_n 2, 1) := by decide +kernel
theorem dX11_worst_69 : decode cX11_worst 69 = .ok (.if_icmp .le 8, 3) := by decide +kernel
theorem dX11_worst_72 : decode cX11_worst 72 = .ok (.iload 4, 2) := by decide +kernel
theorem dX11_worst_74 : decode cX11_worst 74 = .ok (.goto 4, 3) := by decide +kernel
theorem dX11_worst_77 : decode cX11_worst 77 = .ok (.iload_n 2, 1) := by decide +kernel
theorem dX11_worst_78 : decode cX11_worst 78 = .ok (.istore_n 2, 1) := by decide +kernel
theorem dX11_worst_79 : decode cX11_worst 79 = .ok (.aload_n 0, 1) := by decide +kernel
theorem dX11_worst_80 : decode cX11_worst 80 = .ok (.aload_n 0, 1) := by decide +kernel
theorem dX11_worst_81 : decode cX11_worst 81 = .ok (.getfield 29, 3) := by decide +kernel
theorem dX11_worst_84 : decode cX11_worst 84 = .ok (.aload_n 0, 1) := by decide +kernel
theorem dX11_worst_85 : decode cX11_worst 85 = .ok (.getfield 16, 3) := by decide +kernel
theorem dX11_worst_88 : decode cX11_worst 88 = .ok (.iconst 0, 1) := by decide +kernel
theorem dX11_worst_89 : decode cX11_worst 89 = .ok (.iconst 0, 1) := by decide +kernel
theorem dX11_worst_90 : decode cX11_worst 90 = .ok (.invokevirtual 201, 3) := by decide +kernel
theorem dX11_worst_93 : decode cX11_worst 93 = .ok (.iinc 3 1, 3) := by decide +kernel
theorem dX11_worst_96 : decode cX11_worst 96 = .ok (.goto (-70), 3) := by decide +kernel
theorem dX11_worst_99 : decode cX11_worst 99 = .ok (.iload_n 1, 1) := by decide +kernel
theorem dX11_worst_100 : decode cX11_worst 100 = .ok (.ireturn, 1) := by decide +kernel
theorem dX11_sees_0 : decode cX11_sees 0 = .ok (.aload_n 0, 1) := by decide +kernel
theorem dX11_sees_1 : decode cX11_sees 1 = .ok (.iconst 0, 1) := by decide +kernel
theorem dX11_sees_2 : decode cX11_sees 2 = .ok (.putfield 62, 3) := by decide +kernel
theorem dX11_sees_5 : decode cX11_sees 5 = .ok (.aload_n 0, 1) := by decide +kernel
theorem dX11_sees_6 : decode cX11_sees 6 = .ok (.iload_n 1, 1) := by decide +kernel
theorem dX11_sees_7 : decode cX11_sees 7 = .ok (.invokevirtual 205, 3) := by decide +kernel
theorem dX11_sees_10 : decode cX11_sees 10 = .ok (.ifCond .eq 26, 3) := by decide +kernel
theorem dX11_sees_13 : decode cX11_sees 13 = .ok (.aload_n 0, 1) := by decide +kernel
theorem dX11_sees_14 : decode cX11_sees 14 = .ok (.iload_n 2, 1) := by decide +kernel
theorem dX11_sees_15 : decode cX11_sees 15 = .ok (.invokevirtual 205, 3) := by decide +kernel
theorem dX11_sees_18 : decode cX11_sees 18 = .ok (.ifCond .eq 18, 3) := by decide +kernel
theorem dX11_sees_21 : decode cX11_sees 21 = .ok (.iload_n 1, 1) := by decide +kernel
theorem dX11_sees_22 : decode cX11_sees 22 = .ok (.iload_n 2, 1) := by decide +kernel
theorem dX11_sees_23 : decode cX11_sees 23 = .ok (.if_icmp .eq 13, 3) := by decide +kernel
theorem dX11_sees_26 : decode cX11_sees 26 = .ok (.iload_n 3, 1) := by decide +kernel
theorem dX11_sees_27 : decode cX11_sees 27 = .ok (.iconst 0, 1) := by decide +kernel
theorem dX11_sees_28 : decode cX11_sees 28 = .ok (.bipush 121, 2) := by decide +kernel
theorem dX11_sees_30 : decode cX11_sees 30 = .ok (.invokestatic 69, 3) := by decide +kernel
theorem dX11_sees_33 : decode cX11_sees 33 = .ok (.ifCond .ne 5, 3) := by decide +kernel
theorem dX11_sees_36 : decode cX11_sees 36 = .ok (.iconst (-1), 1) := by decide +kernel
theorem dX11_sees_37 : decode cX11_sees 37 = .ok (.ireturn, 1) := by decide +kernel
theorem dX11_sees_38 : decode cX11_sees 38 = .ok (.aload_n 0, 1) := by decide +kernel
theorem dX11_sees_39 : decode cX11_sees 39 = .ok (.getfield 107, 3) := by decide +kernel
theorem dX11_sees_42 : decode cX11_sees 42 = .ok (.bipush 6, 2) := by decide +kernel
theorem dX11_sees_44 : decode cX11_sees 44 = .ok (.if_icmp .ne 6, 3) := by decide +kernel
theorem dX11_sees_47 : decode cX11_sees 47 = .ok (.bipush (-3), 2) := by decide +kernel
theorem dX11_sees_49 : decode cX11_sees 49 = .ok (.ireturn, 1) := by decide +kernel
theorem dX11_sees_50 : decode cX11_sees 50 = .ok (.aload_n 0, 1) := by decide +kernel
theorem dX11_sees_51 : decode cX11_sees 51 = .ok (.getfield 32, 3) := by decide +kernel
theorem dX11_sees_54 : decode cX11_sees 54 = .ok (.aload_n 0, 1) := by decide +kernel
theorem dX11_sees_55 : decode cX11_sees 55 = .ok (.getfield 107, 3) := by decide +kernel
theorem dX11_sees_58 : decode cX11_sees 58 = .ok (.iload_n 1, 1) := by decide +kernel
theorem dX11_sees_59 : decode cX11_sees 59 = .ok (.iastore, 1) := by decide +kernel
theorem dX11_sees_60 : decode cX11_sees 60 = .ok (.aload_n 0, 1) := by decide +kernel
theorem dX11_sees_61 : decode cX11_sees 61 = .ok (.getfield 35, 3) := by decide +kernel
theorem dX11_sees_64 : decode cX11_sees 64 = .ok (.aload_n 0, 1) := by decide +kernel
theorem dX11_sees_65 : decode cX11_sees 65 = .ok (.getfield 107, 3) := by decide +kernel
theorem dX11_sees_68 : decode cX11_sees 68 = .ok (.iload_n 2, 1) := by decide +kernel
theorem dX11_sees_69 : decode cX11_sees 69 = .ok (.iastore, 1) := by decide +kernel
theorem dX11_sees_70 : decode cX11_sees 70 = .ok (.aload_n 0, 1) := by decide +kernel
theorem dX11_sees_71 : decode cX11_sees 71 = .ok (.getfield 38, 3) := by decide +kernel
theorem dX11_sees_74 : decode cX11_sees 74 = .ok (.aload_n 0, 1) := by decide +kernel
theorem dX11_sees_75 : decode cX11_sees 75 = .ok (.getfield 107, 3) := by decide +kernel
theorem dX11_sees_78 : decode cX11_sees 78 = .ok (.iload_n 3, 1) := by decide +kernel
theorem dX11_sees_79 : decode cX11_sees 79 = .ok (.iastore, 1) := by decide +kernel
theorem dX11_sees_80 : decode cX11_sees 80 = .ok (.aload_n 0, 1) := by decide +kernel
theorem dX11_sees_81 : decode cX11_sees 81 = .ok (.dup, 1) := by decide +kernel
theorem dX11_sees_82 : decode cX11_sees 82 = .ok (.getfield 107, 3) := by decide +kernel
theorem dX11_sees_85 : decode cX11_sees 85 = .ok (.iconst 1, 1) := by decide +kernel
theorem dX11_sees_86 : decode cX11_sees 86 = .ok (.iadd, 1) := by decide +kernel
theorem dX11_sees_87 : decode cX11_sees 87 = .ok (.putfield 107, 3) := by decide +kernel
theorem dX11_sees_90 : decode cX11_sees 90 = .ok (.aload_n 0, 1) := by decide +kernel
theorem dX11_sees_91 : decode cX11_sees 91 = .ok (.getfield 107, 3) := by decide +kernel
theorem dX11_sees_94 : decode cX11_sees 94 = .ok (.ireturn, 1) := by decide +kernel
theorem dX11_forget_0 : decode cX11_forget 0 = .ok (.aload_n 0, 1) := by decide +kernel
theorem dX11_forget_1 : decode cX11_forget 1 = .ok (.iconst 0, 1) := by decide +kernel
theorem dX11_forget_2 : decode cX11_forget 2 = .ok (.putfield 62, 3) := by decide +kernel
theorem dX11_forget_5 : decode cX11_forget 5 = .ok (.aload_n 0, 1) := by decide +kernel
theorem dX11_forget_6 : decode cX11_forget 6 = .ok (.getfield 107, 3) := by decide +kernel
theorem dX11_forget_9 : decode cX11_forget 9 = .ok (.istore_n 1, 1) := by decide +kernel
theorem dX11_forget_10 : decode cX11_forget 10 = .ok (.aload_n 0, 1) := by decide +kernel
theorem dX11_forget_11 : decode cX11_forget 11 = .ok (.iconst 0, 1) := by decide +kernel
theorem dX11_forget_12 : decode cX11_forget 12 = .ok (.putfield 107, 3) := by decide +kernel
theorem dX11_forget_15 : decode cX11_forget 15 = .ok (.iload_n 1, 1) := by decide +kernel
theorem dX11_forget_16 : decode cX11_forget 16 = .ok (.ireturn, 1) := by decide +kernel
theorem dX11_unseen_0 : decode cX11_unseen 0 = .ok (.aload_n 0, 1) := by decide +kernel
theorem dX11_unseen_1 : decode cX11_unseen 1 = .ok (.iconst 0, 1) := by decide +kernel
theorem dX11_unseen_2 : decode cX11_unseen 2 = .ok (.putfield 62, 3) := by decide +kernel
theorem dX11_unseen_5 : decode cX11_unseen 5 = .ok (.iconst 0, 1) := by decide +kernel
theorem dX11_unseen_6 : decode cX11_unseen 6 = .ok (.istore_n 1, 1) := by decide +kernel
theorem dX11_unseen_7 : decode cX11_unseen 7 = .ok (.iconst 0, 1) := by decide +kernel
theorem dX11_unseen_8 : decode cX11_unseen 8 = .ok (.istore_n 2, 1) := by decide +kernel
theorem dX11_unseen_9 : decode cX11_unseen 9 = .ok (.iload_n 2, 1) := by decide +kernel
theorem dX11_unseen_10 : decode cX11_unseen 10 = .ok (.aload_n 0, 1) := by decide +kernel
theorem dX11_unseen_11 : decode cX11_unseen 11 = .ok (.getfield 73, 3) := by decide +kernel
theorem dX11_unseen_14 : decode cX11_unseen 14 = .ok (.if_icmp .ge 112, 3) := by decide +kernel
theorem dX11_unseen_17 : decode cX11_unseen 17 = .ok (.aload_n 0, 1) := by decide +kernel
theorem dX11_unseen_18 : decode cX11_unseen 18 = .ok (.iload_n 2, 1) := by decide +kernel
theorem dX11_unseen_19 : decode cX11_unseen 19 = .ok (.invokevirtual 120, 3) := by decide +kernel
theorem dX11_unseen_22 : decode cX11_unseen 22 = .ok (.ifCond .ne 7, 3) := by decide +kernel
theorem dX11_unseen_25 : decode cX11_unseen 25 = .ok (.iconst 1, 1) := by decide +kernel
theorem dX11_unseen_26 : decode cX11_unseen 26 = .ok (.goto 4, 3) := by decide +kernel
theorem dX11_unseen_29 : decode cX11_unseen 29 = .ok (.iconst 0, 1) := by decide +kernel
theorem dX11_unseen_30 : decode cX11_unseen 30 = .ok (.istore_n 3, 1) := by decide +kernel
theorem dX11_unseen_31 : decode cX11_unseen 31 = .ok (.iconst 0, 1) := by decide +kernel
theorem dX11_unseen_32 : decode cX11_unseen 32 = .ok (.istore 4, 2) := by decide +kernel
theorem dX11_unseen_34 : decode cX11_unseen 34 = .ok (.iload 4, 2) := by decide +kernel
theorem dX11_unseen_36 : decode cX11_unseen 36 = .ok (.aload_n 0, 1) := by decide +kernel
theorem dX11_unseen_37 : decode cX11_unseen 37 = .ok (.getfield 107, 3) := by decide +kernel
theorem dX11_unseen_40 : decode cX11_unseen 40 = .ok (.if_icmp .ge 66, 3) := by decide +kernel
theorem dX11_unseen_43 : decode cX11_unseen 43 = .ok (.iload_n 3, 1) := by decide +kernel
theorem dX11_unseen_44 : decode cX11_unseen 44 = .ok (.ifCond .eq 62, 3) := by decide +kernel
theorem dX11_unseen_47 : decode cX11_unseen 47 = .ok (.aload_n 0, 1) := by decide +kernel
theorem dX11_unseen_48 : decode cX11_unseen 48 = .ok (.aload_n 0, 1) := by decide +kernel
theorem dX11_unseen_49 : decode cX11_unseen 49 = .ok (.getfield 32, 3) := by decide +kernel
theorem dX11_unseen_52 : decode cX11_unseen 52 = .ok (.iload 4, 2) := by decide +kernel
theorem dX11_unseen_54 : decode cX11_unseen 54 = .ok (.iaload, 1) := by decide +kernel
theorem dX11_unseen_55 : decode cX11_unseen 55 = .ok (.aload_n 0, 1) := by decide +kernel
theorem dX11_unseen_56 : decode cX11_unseen 56 = .ok (.getfield 35, 3) := by decide +kernel
theorem dX11_unseen_59 : decode cX11_unseen 59 = .ok (.iload 4, 2) := by decide +kernel
theorem dX11_unseen_61 : decode cX11_unseen 61 = .ok (.iaload, 1) := by decide +kernel
theorem dX11_unseen_62 : decode cX11_unseen 62 = .ok (.iconst 1, 1) := by decide +kernel
theorem dX11_unseen_63 : decode cX11_unseen 63 = .ok (.iconst 2, 1) := by decide +kernel
theorem dX11_unseen_64 : decode cX11_unseen 64 = .ok (.iload_n 2, 1) := by decide +kernel
theorem dX11_unseen_65 : decode cX11_unseen 65 = .ok (.invokevirtual 235, 3) := by decide +kernel
theorem dX11_unseen_68 : decode cX11_unseen 68 = .ok (.istore 5, 2) := by decide +kernel
theorem dX11_unseen_70 : decode cX11_unseen 70 = .ok (.aload_n 0, 1) := by decide +kernel
theorem dX11_unseen_71 : decode cX11_unseen 71 = .ok (.getfield 38, 3) := by decide +kernel
theorem dX11_unseen_74 : decode cX11_unseen 74 = .ok (.iload 4, 2) := by decide +kernel
theorem dX11_unseen_76 : decode cX11_unseen 76 = .ok (.iaload, 1) := by decide +kernel
theorem dX11_unseen_77 : decode cX11_unseen 77 = .ok (.iload 5, 2) := by decide +kernel
theorem dX11_unseen_79 : decode cX11_unseen 79 = .ok (.bipush (-9), 2) := by decide +kernel
theorem dX11_unseen_81 : decode cX11_unseen 81 = .ok (.if_icmp .ne 8, 3) := by decide +kernel
theorem dX11_unseen_84 : decode cX11_unseen 84 = .ok (.bipush 121, 2) := by decide +kernel
theorem dX11_unseen_86 : decode cX11_unseen 86 = .ok (.goto 5, 3) := by decide +kernel
theorem dX11_unseen_89 : decode cX11_unseen 89 = .ok (.iload 5, 2) := by decide +kernel
theorem dX11_unseen_91 : decode cX11_unseen 91 = .ok (.if_icmp .ne 7, 3) := by decide +kernel
theorem dX11_unseen_94 : decode cX11_unseen 94 = .ok (.iconst 1, 1) := by decide +kernel
theorem dX11_unseen_95 : decode cX11_unseen 95 = .ok (.goto 4, 3) := by decide +kernel
theorem dX11_unseen_98 : decode cX11_unseen 98 = .ok (.iconst 0, 1) := by decide +kernel
theorem dX11_unseen_99 : decode cX11_unseen 99 = .ok (.istore_n 3, 1) := by decide +kernel
theorem dX11_unseen_100 : decode cX11_unseen 100 = .ok (.iinc 4 1, 3) := by decide +kernel
theorem dX11_unseen_103 : decode cX11_unseen 103 = .ok (.goto (-69), 3) := by decide +kernel
theorem dX11_unseen_106 : decode cX11_unseen 106 = .ok (.iload_n 1, 1) := by decide +kernel
theorem dX11_unseen_107 : decode cX11_unseen 107 = .ok (.iload_n 3, 1) := by decide +kernel
theorem dX11_unseen_108 : decode cX11_unseen 108 = .ok (.ifCond .eq 9, 3) := by decide +kernel
theorem dX11_unseen_111 : decode cX11_unseen 111 = .ok (.iconst 1, 1) := by decide +kernel
theorem dX11_unseen_112 : decode cX11_unseen 112 = .ok (.iload_n 2, 1) := by decide +kernel
theorem dX11_unseen_113 : decode cX11_unseen 113 = .ok (.ishl, 1) := by decide +kernel
theorem dX11_unseen_114 : decode cX11_unseen 114 = .ok (.goto 4, 3) := by decide +kernel
theorem dX11_unseen_117 : decode cX11_unseen 117 = .ok (.iconst 0, 1) := by decide +kernel
theorem dX11_unseen_118 : decode cX11_unseen 118 = .ok (.ior, 1) := by decide +kernel
theorem dX11_unseen_119 : decode cX11_unseen 119 = .ok (.istore_n 1, 1) := by decide +kernel
theorem dX11_unseen_120 : decode cX11_unseen 120 = .ok (.iinc 2 1, 3) := by decide +kernel
theorem dX11_unseen_123 : decode cX11_unseen 123 = .ok (.goto (-114), 3) := by decide +kernel
theorem dX11_unseen_126 : decode cX11_unseen 126 = .ok (.iload_n 1, 1) := by decide +kernel
theorem dX11_unseen_127 : decode cX11_unseen 127 = .ok (.ireturn, 1) := by decide +kernel
theorem dX11_keep_0 : decode cX11_keep 0 = .ok (.aload_n 0, 1) := by decide +kernel
theorem dX11_keep_1 : decode cX11_keep 1 = .ok (.iconst 0, 1) := by decide +kernel
theorem dX11_keep_2 : decode cX11_keep 2 = .ok (.putfield 62, 3) := by decide +kernel
theorem dX11_keep_5 : decode cX11_keep 5 = .ok (.iload_n 1, 1) := by decide +kernel
theorem dX11_keep_6 : decode cX11_keep 6 = .ok (.iconst 0, 1) := by decide +kernel
theorem dX11_keep_7 : decode cX11_keep 7 = .ok (.iconst 1, 1) := by decide +kernel
theorem dX11_keep_8 : decode cX11_keep 8 = .ok (.invokestatic 69, 3) := by decide +kernel
theorem dX11_keep_11 : decode cX11_keep 11 = .ok (.ifCond .ne 5, 3) := by decide +kernel
theorem dX11_keep_14 : decode cX11_keep 14 = .ok (.iconst (-1), 1) := by decide +kernel
theorem dX11_keep_15 : decode cX11_keep 15 = .ok (.ireturn, 1) := by decide +kernel
theorem dX11_keep_16 : decode cX11_keep 16 = .ok (.aload_n 0, 1) := by decide +kernel
theorem dX11_keep_17 : decode cX11_keep 17 = .ok (.aload_n 0, 1) := by decide +kernel
theorem dX11_keep_18 : decode cX11_keep 18 = .ok (.getfield 16, 3) := by decide +kernel
theorem dX11_keep_21 : decode cX11_keep 21 = .ok (.aload_n 0, 1) := by decide +kernel
theorem dX11_keep_22 : decode cX11_keep 22 = .ok (.getfield 22, 3) := by decide +kernel
theorem dX11_keep_25 : decode cX11_keep 25 = .ok (.iconst 0, 1) := by decide +kernel
theorem dX11_keep_26 : decode cX11_keep 26 = .ok (.sipush 163, 3) := by decide +kernel
theorem dX11_keep_29 : decode cX11_keep 29 = .ok (.iload_n 1, 1) := by decide +kernel
theorem dX11_keep_30 : decode cX11_keep 30 = .ok (.imul, 1) := by decide +kernel
theorem dX11_keep_31 : decode cX11_keep 31 = .ok (.invokevirtual 201, 3) := by decide +kernel
theorem dX11_keep_34 : decode cX11_keep 34 = .ok (.aload_n 0, 1) := by decide +kernel
theorem dX11_keep_35 : decode cX11_keep 35 = .ok (.getfield 25, 3) := by decide +kernel
theorem dX11_keep_38 : decode cX11_keep 38 = .ok (.iload_n 1, 1) := by decide +kernel
theorem dX11_keep_39 : decode cX11_keep 39 = .ok (.iconst 1, 1) := by decide +kernel
theorem dX11_keep_40 : decode cX11_keep 40 = .ok (.bastore, 1) := by decide +kernel
theorem dX11_keep_41 : decode cX11_keep 41 = .ok (.aload_n 0, 1) := by decide +kernel
theorem dX11_keep_42 : decode cX11_keep 42 = .ok (.getfield 16, 3) := by decide +kernel
theorem dX11_keep_45 : decode cX11_keep 45 = .ok (.iconst 2, 1) := by decide +kernel
theorem dX11_keep_46 : decode cX11_keep 46 = .ok (.iaload, 1) := by decide +kernel
theorem dX11_keep_47 : decode cX11_keep 47 = .ok (.ireturn, 1) := by decide +kernel
theorem dX11_back_0 : decode cX11_back 0 = .ok (.aload_n 0, 1) := by decide +kernel
theorem dX11_back_1 : decode cX11_back 1 = .ok (.iconst 0, 1) := by decide +kernel
theorem dX11_back_2 : decode cX11_back 2 = .ok (.putfield 62, 3) := by decide +kernel
theorem dX11_back_5 : decode cX11_back 5 = .ok (.iload_n 1, 1) := by decide +kernel
theorem dX11_back_6 : decode cX11_back 6 = .ok (.iconst 0, 1) := by decide +kernel
theorem dX11_back_7 : decode cX11_back 7 = .ok (.iconst 1, 1) := by decide +kernel
theorem dX11_back_8 : decode cX11_back 8 = .ok (.invokestatic 69, 3) := by decide +kernel
theorem dX11_back_11 : decode cX11_back 11 = .ok (.ifCond .ne 5, 3) := by decide +kernel
theorem dX11_back_14 : decode cX11_back 14 = .ok (.iconst (-1), 1) := by decide +kernel
theorem dX11_back_15 : decode cX11_back 15 = .ok (.ireturn, 1) := by decide +kernel
theorem dX11_back_16 : decode cX11_back 16 = .ok (.aload_n 0, 1) := by decide +kernel
theorem dX11_back_17 : decode cX11_back 17 = .ok (.getfield 25, 3) := by decide +kernel
theorem dX11_back_20 : decode cX11_back 20 = .ok (.iload_n 1, 1) := by decide +kernel
theorem dX11_back_21 : decode cX11_back 21 = .ok (.baload, 1) := by decide +kernel
theorem dX11_back_22 : decode cX11_back 22 = .ok (.ifCond .ne 6, 3) := by decide +kernel
theorem dX11_back_25 : decode cX11_back 25 = .ok (.bipush (-2), 2) := by decide +kernel
theorem dX11_back_27 : decode cX11_back 27 = .ok (.ireturn, 1) := by decide +kernel
theorem dX11_back_28 : decode cX11_back 28 = .ok (.aload_n 0, 1) := by decide +kernel
theorem dX11_back_29 : decode cX11_back 29 = .ok (.aload_n 0, 1) := by decide +kernel
theorem dX11_back_30 : decode cX11_back 30 = .ok (.getfield 22, 3) := by decide +kernel
theorem dX11_back_33 : decode cX11_back 33 = .ok (.aload_n 0, 1) := by decide +kernel
theorem dX11_back_34 : decode cX11_back 34 = .ok (.getfield 16, 3) := by decide +kernel
theorem dX11_back_37 : decode cX11_back 37 = .ok (.sipush 163, 3) := by decide +kernel
theorem dX11_back_40 : decode cX11_back 40 = .ok (.iload_n 1, 1) := by decide +kernel
theorem dX11_back_41 : decode cX11_back 41 = .ok (.imul, 1) := by decide +kernel
theorem dX11_back_42 : decode cX11_back 42 = .ok (.iconst 0, 1) := by decide +kernel
theorem dX11_back_43 : decode cX11_back 43 = .ok (.invokevirtual 201, 3) := by decide +kernel
theorem dX11_back_46 : decode cX11_back 46 = .ok (.aload_n 0, 1) := by decide +kernel
theorem dX11_back_47 : decode cX11_back 47 = .ok (.iconst 0, 1) := by decide +kernel
theorem dX11_back_48 : decode cX11_back 48 = .ok (.putfield 104, 3) := by decide +kernel
theorem dX11_back_51 : decode cX11_back 51 = .ok (.aload_n 0, 1) := by decide +kernel
theorem dX11_back_52 : decode cX11_back 52 = .ok (.getfield 16, 3) := by decide +kernel
theorem dX11_back_55 : decode cX11_back 55 = .ok (.iconst 2, 1) := by decide +kernel
theorem dX11_back_56 : decode cX11_back 56 = .ok (.iaload, 1) := by decide +kernel
theorem dX11_back_57 : decode cX11_back 57 = .ok (.ireturn, 1) := by decide +kernel
theorem dX11_count_0 : decode cX11_count 0 = .ok (.aload_n 0, 1) := by decide +kernel
theorem dX11_count_1 : decode cX11_count 1 = .ok (.iconst 0, 1) := by decide +kernel
theorem dX11_count_2 : decode cX11_count 2 = .ok (.putfield 62, 3) := by decide +kernel
theorem dX11_count_5 : decode cX11_count 5 = .ok (.iload_n 1, 1) := by decide +kernel
theorem dX11_count_6 : decode cX11_count 6 = .ok (.tableswitch 101 0 8 #[50, 55, 60, 67, 74, 80, 86, 91, 96], 50) := by decide +kernel
theorem dX11_count_56 : decode cX11_count 56 = .ok (.aload_n 0, 1) := by decide +kernel
theorem dX11_count_57 : decode cX11_count 57 = .ok (.getfield 66, 3) := by decide +kernel
theorem dX11_count_60 : decode cX11_count 60 = .ok (.ireturn, 1) := by decide +kernel
theorem dX11_count_61 : decode cX11_count 61 = .ok (.aload_n 0, 1) := by decide +kernel
theorem dX11_count_62 : decode cX11_count 62 = .ok (.getfield 73, 3) := by decide +kernel
theorem dX11_count_65 : decode cX11_count 65 = .ok (.ireturn, 1) := by decide +kernel
theorem dX11_count_66 : decode cX11_count 66 = .ok (.aload_n 0, 1) := by decide +kernel
theorem dX11_count_67 : decode cX11_count 67 = .ok (.getfield 16, 3) := by decide +kernel
theorem dX11_count_70 : decode cX11_count 70 = .ok (.iconst 2, 1) := by decide +kernel
theorem dX11_count_71 : decode cX11_count 71 = .ok (.iaload, 1) := by decide +kernel
theorem dX11_count_72 : decode cX11_count 72 = .ok (.ireturn, 1) := by decide +kernel
theorem dX11_count_73 : decode cX11_count 73 = .ok (.aload_n 0, 1) := by decide +kernel
theorem dX11_count_74 : decode cX11_count 74 = .ok (.getfield 16, 3) := by decide +kernel
theorem dX11_count_77 : decode cX11_count 77 = .ok (.iconst 0, 1) := by decide +kernel
theorem dX11_count_78 : decode cX11_count 78 = .ok (.iaload, 1) := by decide +kernel
theorem dX11_count_79 : decode cX11_count 79 = .ok (.ireturn, 1) := by decide +kernel
theorem dX11_count_80 : decode cX11_count 80 = .ok (.aload_n 0, 1) := by decide +kernel
theorem dX11_count_81 : decode cX11_count 81 = .ok (.iconst 0, 1) := by decide +kernel
theorem dX11_count_82 : decode cX11_count 82 = .ok (.invokevirtual 229, 3) := by decide +kernel
theorem dX11_count_85 : decode cX11_count 85 = .ok (.ireturn, 1) := by decide +kernel
theorem dX11_count_86 : decode cX11_count 86 = .ok (.aload_n 0, 1) := by decide +kernel
theorem dX11_count_87 : decode cX11_count 87 = .ok (.iconst 1, 1) := by decide +kernel
theorem dX11_count_88 : decode cX11_count 88 = .ok (.invokevirtual 229, 3) := by decide +kernel
theorem dX11_count_91 : decode cX11_count 91 = .ok (.ireturn, 1) := by decide +kernel
theorem dX11_count_92 : decode cX11_count 92 = .ok (.aload_n 0, 1) := by decide +kernel
theorem dX11_count_93 : decode cX11_count 93 = .ok (.getfield 107, 3) := by decide +kernel
theorem dX11_count_96 : decode cX11_count 96 = .ok (.ireturn, 1) := by decide +kernel
theorem dX11_count_97 : decode cX11_count 97 = .ok (.aload_n 0, 1) := by decide +kernel
theorem dX11_count_98 : decode cX11_count 98 = .ok (.getfield 76, 3) := by decide +kernel
theorem dX11_count_101 : decode cX11_count 101 = .ok (.ireturn, 1) := by decide +kernel
theorem dX11_count_102 : decode cX11_count 102 = .ok (.aload_n 0, 1) := by decide +kernel
theorem dX11_count_103 : decode cX11_count 103 = .ok (.getfield 104, 3) := by decide +kernel
theorem dX11_count_106 : decode cX11_count 106 = .ok (.ireturn, 1) := by decide +kernel
theorem dX11_count_107 : decode cX11_count 107 = .ok (.iconst (-1), 1) := by decide +kernel
theorem dX11_count_108 : decode cX11_count 108 = .ok (.ireturn, 1) := by decide +kernel
theorem m_X11_meets {G : GT} (hg : gx G = FX) {n : Nat} {μ : Mem} {Q : Int → Nat → Mem → Prop} {v1 v2 v3 v4 : Int}  (h : ((inR (2 * v2)) ∧ ((inR (10 + (2 * v2))) ∧ (CI G Y_X11_its [.inr 399, .inl v1, .inl (10 + (2 * v2))] n μ (fun (x3 : Int) (n4 : Nat) (μ5 : Mem) => ((inR (2 * v2)) ∧ ((inR (10 + (2 * v2))) ∧ ((inR ((10 + (2 * v2)) + 1)) ∧ (CI G Y_X11_its [.inr 399, .inl v1, .inl ((10 + (2 * v2)) + 1)] n4 μ5 (fun (x9 : Int) (n10 : Nat) (μ11 : Mem) => ((inR (2 * v4)) ∧ ((inR (10 + (2 * v4))) ∧ ((inR ((10 + (2 * v4)) + 1)) ∧ (CI G Y_X11_its [.inr 399, .inl v3, .inl ((10 + (2 * v4)) + 1)] n10 μ11 (fun (x15 : Int) (n16 : Nat) (μ17 : Mem) => ((inR (2 * v4)) ∧ ((inR (10 + (2 * v4))) ∧ (CI G Y_X11_its [.inr 399, .inl v3, .inl (10 + (2 * v4))] n16 μ17 (fun (x20 : Int) (n21 : Nat) (μ22 : Mem) => ((¬ (x3 = x20) → (Q 0 n21 μ22)) ∧ (x3 = x20 → (CI G Y_X11_its [.inr 399, .inl v3, .inl 0] n21 μ22 (fun (x24 : Int) (n25 : Nat) (μ26 : Mem) => (CI G Y_X11_ticks [.inr 399, .inl x24, .inl x3] n25 μ26 (fun (x27 : Int) (n28 : Nat) (μ29 : Mem) => ((inR (x15 + x27)) ∧ (((x15 + x27) ≤ x9 → (Q 0 n28 μ29)) ∧ (¬ ((x15 + x27) ≤ x9) → (CI G Y_X11_its [.inr 399, .inl v1, .inl 0] n28 μ29 (fun (x32 : Int) (n33 : Nat) (μ34 : Mem) => (CI G Y_X11_ticks [.inr 399, .inl x32, .inl x3] n33 μ34 (fun (x35 : Int) (n36 : Nat) (μ37 : Mem) => ((inR (x9 + x35)) ∧ (((x9 + x35) ≤ x15 → (Q 0 n36 μ37)) ∧ (¬ ((x9 + x35) ≤ x15) → (Q 1 n36 μ37)))))))))))))))))))))))))))))))))))) : CI G Y_X11_meets [.inr 399, .inl v1, .inl v2, .inl v3, .inl v4] n μ Q := by
  refine e_I (by decide) (Nat.le_of_ble_eq_true rfl) ?_
  show Wa G Y_X11_meets (ZI G Y_X11_meets Q) 0 0 n μ 0 [(0, .inr 399), (1, .inl v1), (2, .inl v2), (3, .inl v3), (4, .inl v4)] []
  refine a_aload_n (k := 0) dX11_meets_0 rfl rfl ?_
  refine a_iload_n (k := 1) dX11_meets_1 rfl rfl ?_
  refine a_bipush dX11_meets_2 (by decide) (by decide) ?_
  refine a_iconst dX11_meets_4 (by decide) ?_
  refine a_iload_n (k := 2) dX11_meets_5 rfl rfl ?_
  obtain ⟨q1, h⟩ := h
  refine a_imul dX11_meets_6 q1 ?_
  obtain ⟨q2, h⟩ := h
  refine a_iadd dX11_meets_7 q2 ?_
  refine k_X11_127 rfl dX11_meets_8 (Nat.le_of_ble_eq_true rfl) rfl (Nat.le_of_ble_eq_true rfl) (Nat.le_of_ble_eq_true rfl) (St_ho hg St_399) h (fun x3 n4 μ5 h => ?_)
  refine b_istore (L' := [(0, .inr 399), (1, .inl v1), (2, .inl v2), (3, .inl v3), (4, .inl v4), (5, .inl x3)]) [1, 2, 3, 4, 5, 0] dX11_meets_11 (Nat.le_of_ble_eq_true rfl) rfl ?_
  refine a_aload_n (k := 0) dX11_meets_13 rfl rfl ?_
  refine a_iload_n (k := 1) dX11_meets_14 rfl rfl ?_
  refine a_bipush dX11_meets_15 (by decide) (by decide) ?_
  refine a_iconst dX11_meets_17 (by decide) ?_
  refine a_iload_n (k := 2) dX11_meets_18 rfl rfl ?_
  obtain ⟨q6, h⟩ := h
  refine a_imul dX11_meets_19 q6 ?_
  obtain ⟨q7, h⟩ := h
  refine a_iadd dX11_meets_20 q7 ?_
  refine a_iconst dX11_meets_21 (by decide) ?_
  obtain ⟨q8, h⟩ := h
  refine a_iadd dX11_meets_22 q8 ?_
  refine k_X11_127 rfl dX11_meets_23 (Nat.le_of_ble_eq_true rfl) rfl (Nat.le_of_ble_eq_true rfl) (Nat.le_of_ble_eq_true rfl) (St_ho hg St_399) h (fun x9 n10 μ11 h => ?_)
  refine b_istore (L' := [(0, .inr 399), (1, .inl v1), (2, .inl v2), (3, .inl v3), (4, .inl v4), (5, .inl x3), (6, .inl x9)]) [1, 2, 3, 4, 5, 6, 0] dX11_meets_26 (Nat.le_of_ble_eq_true rfl) rfl ?_
  refine a_aload_n (k := 0) dX11_meets_28 rfl rfl ?_
  refine a_iload_n (k := 3) dX11_meets_29 rfl rfl ?_
  refine a_bipush dX11_meets_30 (by decide) (by decide) ?_
  refine a_iconst dX11_meets_32 (by decide) ?_
  refine a_iload (k := 4) dX11_meets_33 rfl ?_
  obtain ⟨q12, h⟩ := h
  refine a_imul dX11_meets_35 q12 ?_
  obtain ⟨q13, h⟩ := h
  refine a_iadd dX11_meets_36 q13 ?_
  refine a_iconst dX11_meets_37 (by decide) ?_
  obtain ⟨q14, h⟩ := h
  refine a_iadd dX11_meets_38 q14 ?_
  refine k_X11_127 rfl dX11_meets_39 (Nat.le_of_ble_eq_true rfl) rfl (Nat.le_of_ble_eq_true rfl) (Nat.le_of_ble_eq_true rfl) (St_ho hg St_399) h (fun x15 n16 μ17 h => ?_)
  refine b_istore (L' := [(0, .inr 399), (1, .inl v1), (2, .inl v2), (3, .inl v3), (4, .inl v4), (5, .inl x3), (6, .inl x9), (7, .inl x15)]) [1, 2, 3, 4, 5, 6, 7, 0] dX11_meets_42 (Nat.le_of_ble_eq_true rfl) rfl ?_
  refine a_iload (k := 5) dX11_meets_44 rfl ?_
  refine a_aload_n (k := 0) dX11_meets_46 rfl rfl ?_
  refine a_iload_n (k := 3) dX11_meets_47 rfl rfl ?_
  refine a_bipush dX11_meets_48 (by decide) (by decide) ?_
  refine a_iconst dX11_meets_50 (by decide) ?_
  refine a_iload (k := 4) dX11_meets_51 rfl ?_
  obtain ⟨q18, h⟩ := h
  refine a_imul dX11_meets_53 q18 ?_
  obtain ⟨q19, h⟩ := h
  refine a_iadd dX11_meets_54 q19 ?_
  refine k_X11_127 rfl dX11_meets_55 (Nat.le_of_ble_eq_true rfl) rfl (Nat.le_of_ble_eq_true rfl) (Nat.le_of_ble_eq_true rfl) (St_ho hg St_399) h (fun x20 n21 μ22 h => ?_)
  refine a_icmp_ne (tgt := 105) dX11_meets_58 (by decide) (fun c23 => ?_) (fun c23 => ?_)
  · replace h := h.1 c23
    refine a_iconst dX11_meets_105 (by decide) ?_
    exact a_zret dX11_meets_106 rfl (Nat.le_of_ble_eq_true rfl) (Nat.le_of_ble_eq_true rfl) (by decide) h
  · replace h := h.2 c23
    refine a_iload (k := 6) dX11_meets_61 rfl ?_
    refine a_iload (k := 7) dX11_meets_63 rfl ?_
    refine a_aload_n (k := 0) dX11_meets_65 rfl rfl ?_
    refine a_aload_n (k := 0) dX11_meets_66 rfl rfl ?_
    refine a_iload_n (k := 3) dX11_meets_67 rfl rfl ?_
    refine a_iconst dX11_meets_68 (by decide) ?_
    refine k_X11_127 rfl dX11_meets_69 (Nat.le_of_ble_eq_true rfl) rfl (Nat.le_of_ble_eq_true rfl) (Nat.le_of_ble_eq_true rfl) (St_ho hg St_399) h (fun x24 n25 μ26 h => ?_)
    refine a_iload (k := 5) dX11_meets_72 rfl ?_
    refine k_X11_131 rfl dX11_meets_74 (Nat.le_of_ble_eq_true rfl) rfl (Nat.le_of_ble_eq_true rfl) (Nat.le_of_ble_eq_true rfl) (St_ho hg St_399) h (fun x27 n28 μ29 h => ?_)
    obtain ⟨q30, h⟩ := h
    refine a_iadd dX11_meets_77 q30 ?_
    refine a_icmp_ge (tgt := 105) dX11_meets_78 (by decide) (fun c31 => ?_) (fun c31 => ?_)
    · replace h := h.1 c31
      refine a_iconst dX11_meets_105 (by decide) ?_
      exact a_zret dX11_meets_106 rfl (Nat.le_of_ble_eq_true rfl) (Nat.le_of_ble_eq_true rfl) (by decide) h
    · replace h := h.2 c31
      refine a_iload (k := 7) dX11_meets_81 rfl ?_
      refine a_iload (k := 6) dX11_meets_83 rfl ?_
      refine a_aload_n (k := 0) dX11_meets_85 rfl rfl ?_
      refine a_aload_n (k := 0) dX11_meets_86 rfl rfl ?_
      refine a_iload_n (k := 1) dX11_meets_87 rfl rfl ?_
      refine a_iconst dX11_meets_88 (by decide) ?_
      refine k_X11_127 rfl dX11_meets_89 (Nat.le_of_ble_eq_true rfl) rfl (Nat.le_of_ble_eq_true rfl) (Nat.le_of_ble_eq_true rfl) (St_ho hg St_399) h (fun x32 n33 μ34 h => ?_)
      refine a_iload (k := 5) dX11_meets_92 rfl ?_
      refine k_X11_131 rfl dX11_meets_94 (Nat.le_of_ble_eq_true rfl) rfl (Nat.le_of_ble_eq_true rfl) (Nat.le_of_ble_eq_true rfl) (St_ho hg St_399) h (fun x35 n36 μ37 h => ?_)
      obtain ⟨q38, h⟩ := h
      refine a_iadd dX11_meets_97 q38 ?_
      refine a_icmp_ge (tgt := 105) dX11_meets_98 (by decide) (fun c39 => ?_) (fun c39 => ?_)
      · replace h := h.1 c39
        refine a_iconst dX11_meets_105 (by decide) ?_
        exact a_zret dX11_meets_106 rfl (Nat.le_of_ble_eq_true rfl) (Nat.le_of_ble_eq_true rfl) (by decide) h
      · replace h := h.2 c39
        refine a_iconst dX11_meets_101 (by decide) ?_
        refine a_goto (tgt := 106) dX11_meets_102 (by decide) ?_
        exact a_zret dX11_meets_106 rfl (Nat.le_of_ble_eq_true rfl) (Nat.le_of_ble_eq_true rfl) (by decide) h
abbrev B_X11_pushesOut_4 (G : GT) (Q : Int → Nat → Mem → Prop) (n : Nat) (μ : Mem) (v1 : Int) (v2 : Int) (v3 : Int) : Prop := Wa G Y_X11_pushesOut (ZI G Y_X11_pushesOut Q) 0 0 n μ 4 [(0, .inr 399), (1, .inl v1), (2, .inl v2), (3, .inl v3)] []
abbrev B_X11_pushesOut_20 (G : GT) (Q : Int → Nat → Mem → Prop) (n : Nat) (μ : Mem) (v1 : Int) (v2 : Int) (v3 : Int) (v4 : Int) (v5 : Int) : Prop := Wa G Y_X11_pushesOut (ZI G Y_X11_pushesOut Q) 0 0 n μ 20 [(0, .inr 399), (1, .inl v1), (2, .inl v2), (3, .inl v3), (4, .inl v4), (5, .inl v5)] []
abbrev B_X11_pushesOut_50 (G : GT) (Q : Int → Nat → Mem → Prop) (n : Nat) (μ : Mem) (v1 : Int) (v2 : Int) (v3 : Int) (v4 : Int) (v5 : Int) (v6 : Int) : Prop := Wa G Y_X11_pushesOut (ZI G Y_X11_pushesOut Q) 0 0 n μ 50 [(0, .inr 399), (1, .inl v1), (2, .inl v2), (3, .inl v3), (4, .inl v4), (5, .inl v5), (6, .inl v6)] []
abbrev B_X11_pushesOut_80 (G : GT) (Q : Int → Nat → Mem → Prop) (n : Nat) (μ : Mem) (v1 : Int) (v2 : Int) (v3 : Int) (v5 : Int) (v6 : Int) : Prop := Wa G Y_X11_pushesOut (ZI G Y_X11_pushesOut Q) 0 0 n μ 80 [(0, .inr 399), (1, .inl v1), (2, .inl v2), (3, .inl v3), (5, .inl v5), (6, .inl v6)] []
abbrev B_X11_pushesOut_99 (G : GT) (Q : Int → Nat → Mem → Prop) (n : Nat) (μ : Mem) (v1 : Int) (v2 : Int) (v3 : Int) (v4 : Int) : Prop := Wa G Y_X11_pushesOut (ZI G Y_X11_pushesOut Q) 0 0 n μ 99 [(0, .inr 399), (1, .inl v1), (2, .inl v2), (3, .inl v3), (4, .inl v4)] []
abbrev B_X11_pushesOut_122 (G : GT) (Q : Int → Nat → Mem → Prop) (n : Nat) (μ : Mem) (v2 : Int) (v3 : Int) : Prop := Wa G Y_X11_pushesOut (ZI G Y_X11_pushesOut Q) 0 0 n μ 122 [(0, .inr 399), (2, .inl v2), (3, .inl v3)] []
theorem m_X11_pushesOut {G : GT} (hg : gx G = FX) {n : Nat} {μ : Mem} {Q : Int → Nat → Mem → Prop} {v1 : Int}  (h : (B_X11_pushesOut_4 G Q n μ v1 0 0)) : CI G Y_X11_pushesOut [.inr 399, .inl v1] n μ Q := by
  refine e_I (by decide) (Nat.le_of_ble_eq_true rfl) ?_
  show Wa G Y_X11_pushesOut (ZI G Y_X11_pushesOut Q) 0 0 n μ 0 [(0, .inr 399), (1, .inl v1)] []
  refine a_iconst dX11_pushesOut_0 (by decide) ?_
  refine b_istore_n (L' := [(0, .inr 399), (1, .inl v1), (2, .inl 0)]) [1, 2, 0] dX11_pushesOut_1 rfl (Nat.le_of_ble_eq_true rfl) rfl ?_
  refine a_iconst dX11_pushesOut_2 (by decide) ?_
  refine b_istore_n (L' := [(0, .inr 399), (1, .inl v1), (2, .inl 0), (3, .inl 0)]) [1, 2, 3, 0] dX11_pushesOut_3 rfl (Nat.le_of_ble_eq_true rfl) rfl ?_
  exact h
theorem b_X11_pushesOut_4 {G : GT} (hg : gx G = FX) {n : Nat} {μ : Mem} {Q : Int → Nat → Mem → Prop} {v1 v2 v3 : Int}  (h : (((μ 402 2) ≤ v3 → (B_X11_pushesOut_122 G Q n μ v2 0)) ∧ (¬ ((μ 402 2) ≤ v3) → (B_X11_pushesOut_20 G Q n μ v1 v2 v3 0 0)))) : B_X11_pushesOut_4 G Q n μ v1 v2 v3 := by
  show Wa G Y_X11_pushesOut (ZI G Y_X11_pushesOut Q) 0 0 n μ 4 [(0, .inr 399), (1, .inl v1), (2, .inl v2), (3, .inl v3)] []
  refine a_iload_n (k := 3) dX11_pushesOut_4 rfl rfl ?_
  refine a_aload_n (k := 0) dX11_pushesOut_5 rfl rfl ?_
  refine gs_X11_16 rfl dX11_pushesOut_6 hg St_399 ?_
  refine a_iconst dX11_pushesOut_9 (by decide) ?_
  refine a_iaload dX11_pushesOut_10 (St_ho hg St_402) (by decide) (by decide) ?_
  refine a_icmp_ge (tgt := 120) dX11_pushesOut_11 (by decide) (fun c1 => ?_) (fun c1 => ?_)
  · replace h := h.1 c1
    refine a_iconst dX11_pushesOut_120 (by decide) ?_
    refine b_istore_n (L' := [(0, .inr 399), (1, .inl v1), (2, .inl v2), (3, .inl 0)]) [1, 2, 3, 0] dX11_pushesOut_121 rfl (Nat.le_of_ble_eq_true rfl) rfl ?_
    refine a_sub [0, 2, 3] rfl ?_
    exact h
  · replace h := h.2 c1
    refine a_iconst dX11_pushesOut_14 (by decide) ?_
    refine b_istore (L' := [(0, .inr 399), (1, .inl v1), (2, .inl v2), (3, .inl v3), (4, .inl 0)]) [1, 2, 3, 4, 0] dX11_pushesOut_15 (Nat.le_of_ble_eq_true rfl) rfl ?_
    refine a_iconst dX11_pushesOut_17 (by decide) ?_
    refine b_istore (L' := [(0, .inr 399), (1, .inl v1), (2, .inl v2), (3, .inl v3), (4, .inl 0), (5, .inl 0)]) [1, 2, 3, 4, 5, 0] dX11_pushesOut_18 (Nat.le_of_ble_eq_true rfl) rfl ?_
    exact h
theorem b_X11_pushesOut_20 {G : GT} (hg : gx G = FX) {n : Nat} {μ : Mem} {Q : Int → Nat → Mem → Prop} {v1 v2 v3 v4 v5 : Int}  (h : (CI G Y_X11_its [.inr 399, .inl v1, .inl 9] n μ (fun (x1 : Int) (n2 : Nat) (μ3 : Mem) => ((x1 ≤ v5 → (B_X11_pushesOut_99 G Q n2 μ3 v1 v2 v3 v4)) ∧ (¬ (x1 ≤ v5) → (CI G Y_X11_its [.inr 399, .inl v3, .inl 3] n2 μ3 (fun (x5 : Int) (n6 : Nat) (μ7 : Mem) => (CI G Y_X11_its [.inr 399, .inl v1, .inl 3] n6 μ7 (fun (x8 : Int) (n9 : Nat) (μ10 : Mem) => ((x8 ≤ x5 → (B_X11_pushesOut_99 G Q n9 μ10 v1 v2 v3 v4)) ∧ (¬ (x8 ≤ x5) → (B_X11_pushesOut_50 G Q n9 μ10 v1 v2 v3 v4 v5 0)))))))))))) : B_X11_pushesOut_20 G Q n μ v1 v2 v3 v4 v5 := by
  show Wa G Y_X11_pushesOut (ZI G Y_X11_pushesOut Q) 0 0 n μ 20 [(0, .inr 399), (1, .inl v1), (2, .inl v2), (3, .inl v3), (4, .inl v4), (5, .inl v5)] []
  refine a_iload (k := 5) dX11_pushesOut_20 rfl ?_
  refine a_aload_n (k := 0) dX11_pushesOut_22 rfl rfl ?_
  refine a_iload_n (k := 1) dX11_pushesOut_23 rfl rfl ?_
  refine a_bipush dX11_pushesOut_24 (by decide) (by decide) ?_
  refine k_X11_127 rfl dX11_pushesOut_26 (Nat.le_of_ble_eq_true rfl) rfl (Nat.le_of_ble_eq_true rfl) (Nat.le_of_ble_eq_true rfl) (St_ho hg St_399) h (fun x1 n2 μ3 h => ?_)
  refine a_icmp_ge (tgt := 99) dX11_pushesOut_29 (by decide) (fun c4 => ?_) (fun c4 => ?_)
  · replace h := h.1 c4
    refine a_sub [0, 1, 2, 3, 4] rfl ?_
    exact h
  · replace h := h.2 c4
    refine a_aload_n (k := 0) dX11_pushesOut_32 rfl rfl ?_
    refine a_iload_n (k := 3) dX11_pushesOut_33 rfl rfl ?_
    refine a_iconst dX11_pushesOut_34 (by decide) ?_
    refine k_X11_127 rfl dX11_pushesOut_35 (Nat.le_of_ble_eq_true rfl) rfl (Nat.le_of_ble_eq_true rfl) (Nat.le_of_ble_eq_true rfl) (St_ho hg St_399) h (fun x5 n6 μ7 h => ?_)
    refine a_aload_n (k := 0) dX11_pushesOut_38 rfl rfl ?_
    refine a_iload_n (k := 1) dX11_pushesOut_39 rfl rfl ?_
    refine a_iconst dX11_pushesOut_40 (by decide) ?_
    refine k_X11_127 rfl dX11_pushesOut_41 (Nat.le_of_ble_eq_true rfl) rfl (Nat.le_of_ble_eq_true rfl) (Nat.le_of_ble_eq_true rfl) (St_ho hg St_399) h (fun x8 n9 μ10 h => ?_)
    refine a_icmp_ge (tgt := 99) dX11_pushesOut_44 (by decide) (fun c11 => ?_) (fun c11 => ?_)
    · replace h := h.1 c11
      refine a_sub [0, 1, 2, 3, 4] rfl ?_
      exact h
    · replace h := h.2 c11
      refine a_iconst dX11_pushesOut_47 (by decide) ?_
      refine b_istore (L' := [(0, .inr 399), (1, .inl v1), (2, .inl v2), (3, .inl v3), (4, .inl v4), (5, .inl v5), (6, .inl 0)]) [1, 2, 3, 4, 5, 6, 0] dX11_pushesOut_48 (Nat.le_of_ble_eq_true rfl) rfl ?_
      exact h
theorem b_X11_pushesOut_50 {G : GT} (hg : gx G = FX) {n : Nat} {μ : Mem} {Q : Int → Nat → Mem → Prop} {v1 v2 v3 v4 v5 v6 : Int}  (h : (CI G Y_X11_its [.inr 399, .inl v3, .inl 9] n μ (fun (x1 : Int) (n2 : Nat) (μ3 : Mem) => ((x1 ≤ v6 → ((inR (v5 + 1)) ∧ (B_X11_pushesOut_20 G Q n2 μ3 v1 v2 v3 v4 (v5 + 1)))) ∧ (¬ (x1 ≤ v6) → ((¬ (v4 = 0) → (B_X11_pushesOut_80 G Q n2 μ3 v1 v2 v3 v5 v6)) ∧ (v4 = 0 → (CI G Y_X11_meets [.inr 399, .inl v1, .inl v5, .inl v3, .inl v6] n2 μ3 (fun (x7 : Int) (n8 : Nat) (μ9 : Mem) => ((x7 = 0 → ((inR (v6 + 1)) ∧ (B_X11_pushesOut_50 G Q n8 μ9 v1 v2 v3 0 v5 (v6 + 1)))) ∧ (¬ (x7 = 0) → (B_X11_pushesOut_80 G Q n8 μ9 v1 v2 v3 v5 v6)))))))))))) : B_X11_pushesOut_50 G Q n μ v1 v2 v3 v4 v5 v6 := by
  show Wa G Y_X11_pushesOut (ZI G Y_X11_pushesOut Q) 0 0 n μ 50 [(0, .inr 399), (1, .inl v1), (2, .inl v2), (3, .inl v3), (4, .inl v4), (5, .inl v5), (6, .inl v6)] []
  refine a_iload (k := 6) dX11_pushesOut_50 rfl ?_
  refine a_aload_n (k := 0) dX11_pushesOut_52 rfl rfl ?_
  refine a_iload_n (k := 3) dX11_pushesOut_53 rfl rfl ?_
  refine a_bipush dX11_pushesOut_54 (by decide) (by decide) ?_
  refine k_X11_127 rfl dX11_pushesOut_56 (Nat.le_of_ble_eq_true rfl) rfl (Nat.le_of_ble_eq_true rfl) (Nat.le_of_ble_eq_true rfl) (St_ho hg St_399) h (fun x1 n2 μ3 h => ?_)
  refine a_icmp_ge (tgt := 93) dX11_pushesOut_59 (by decide) (fun c4 => ?_) (fun c4 => ?_)
  · replace h := h.1 c4
    obtain ⟨q5, h⟩ := h
    refine b_iinc (L' := [(0, .inr 399), (1, .inl v1), (2, .inl v2), (3, .inl v3), (4, .inl v4), (5, .inl (v5 + 1)), (6, .inl v6)]) (k := 5) [1, 2, 3, 4, 5, 0, 6] dX11_pushesOut_93 rfl q5 (Nat.le_of_ble_eq_true rfl) rfl ?_
    refine a_goto (tgt := 20) dX11_pushesOut_96 (by decide) ?_
    refine a_sub [0, 1, 2, 3, 4, 5] rfl ?_
    exact h
  · replace h := h.2 c4
    refine a_iload (k := 4) dX11_pushesOut_62 rfl ?_
    refine a_if_ne (tgt := 80) dX11_pushesOut_64 (by decide) (fun c6 => ?_) (fun c6 => ?_)
    · replace h := h.1 c6
      refine a_sub [0, 1, 2, 3, 5, 6] rfl ?_
      exact h
    · replace h := h.2 c6
      refine a_aload_n (k := 0) dX11_pushesOut_67 rfl rfl ?_
      refine a_iload_n (k := 1) dX11_pushesOut_68 rfl rfl ?_
      refine a_iload (k := 5) dX11_pushesOut_69 rfl ?_
      refine a_iload_n (k := 3) dX11_pushesOut_71 rfl rfl ?_
      refine a_iload (k := 6) dX11_pushesOut_72 rfl ?_
      refine k_X11_168 rfl dX11_pushesOut_74 (Nat.le_of_ble_eq_true rfl) rfl (Nat.le_of_ble_eq_true rfl) (Nat.le_of_ble_eq_true rfl) (St_ho hg St_399) h (fun x7 n8 μ9 h => ?_)
      refine a_if_eq (tgt := 84) dX11_pushesOut_77 (by decide) (fun c10 => ?_) (fun c10 => ?_)
      · replace h := h.1 c10
        refine a_iconst dX11_pushesOut_84 (by decide) ?_
        refine b_istore (L' := [(0, .inr 399), (1, .inl v1), (2, .inl v2), (3, .inl v3), (4, .inl 0), (5, .inl v5), (6, .inl v6)]) [1, 2, 3, 4, 0, 5, 6] dX11_pushesOut_85 (Nat.le_of_ble_eq_true rfl) rfl ?_
        obtain ⟨q11, h⟩ := h
        refine b_iinc (L' := [(0, .inr 399), (1, .inl v1), (2, .inl v2), (3, .inl v3), (4, .inl 0), (5, .inl v5), (6, .inl (v6 + 1))]) (k := 6) [1, 2, 3, 4, 5, 6, 0] dX11_pushesOut_87 rfl q11 (Nat.le_of_ble_eq_true rfl) rfl ?_
        refine a_goto (tgt := 50) dX11_pushesOut_90 (by decide) ?_
        exact h
      · replace h := h.2 c10
        refine a_sub [0, 1, 2, 3, 5, 6] rfl ?_
        exact h
theorem b_X11_pushesOut_80 {G : GT} (hg : gx G = FX) {n : Nat} {μ : Mem} {Q : Int → Nat → Mem → Prop} {v1 v2 v3 v5 v6 : Int}  (h : ((inR (v6 + 1)) ∧ (B_X11_pushesOut_50 G Q n μ v1 v2 v3 1 v5 (v6 + 1)))) : B_X11_pushesOut_80 G Q n μ v1 v2 v3 v5 v6 := by
  show Wa G Y_X11_pushesOut (ZI G Y_X11_pushesOut Q) 0 0 n μ 80 [(0, .inr 399), (1, .inl v1), (2, .inl v2), (3, .inl v3), (5, .inl v5), (6, .inl v6)] []
  refine a_iconst dX11_pushesOut_80 (by decide) ?_
  refine a_goto (tgt := 85) dX11_pushesOut_81 (by decide) ?_
  refine b_istore (L' := [(0, .inr 399), (1, .inl v1), (2, .inl v2), (3, .inl v3), (4, .inl 1), (5, .inl v5), (6, .inl v6)]) [1, 2, 3, 4, 0, 5, 6] dX11_pushesOut_85 (Nat.le_of_ble_eq_true rfl) rfl ?_
  obtain ⟨q1, h⟩ := h
  refine b_iinc (L' := [(0, .inr 399), (1, .inl v1), (2, .inl v2), (3, .inl v3), (4, .inl 1), (5, .inl v5), (6, .inl (v6 + 1))]) (k := 6) [1, 2, 3, 4, 5, 6, 0] dX11_pushesOut_87 rfl q1 (Nat.le_of_ble_eq_true rfl) rfl ?_
  refine a_goto (tgt := 50) dX11_pushesOut_90 (by decide) ?_
  exact h
theorem b_X11_pushesOut_99 {G : GT} (hg : gx G = FX) {n : Nat} {μ : Mem} {Q : Int → Nat → Mem → Prop} {v1 v2 v3 v4 : Int}  (h : ((v4 = 0 → ((inR (v3 + 1)) ∧ (B_X11_pushesOut_4 G Q n μ v1 (iOr v2 0) (v3 + 1)))) ∧ (¬ (v4 = 0) → ((inR (v3 + 1)) ∧ (B_X11_pushesOut_4 G Q n μ v1 (iOr v2 (iShl 1 v3)) (v3 + 1)))))) : B_X11_pushesOut_99 G Q n μ v1 v2 v3 v4 := by
  show Wa G Y_X11_pushesOut (ZI G Y_X11_pushesOut Q) 0 0 n μ 99 [(0, .inr 399), (1, .inl v1), (2, .inl v2), (3, .inl v3), (4, .inl v4)] []
  refine a_iload_n (k := 2) dX11_pushesOut_99 rfl rfl ?_
  refine a_iload (k := 4) dX11_pushesOut_100 rfl ?_
  refine a_if_eq (tgt := 111) dX11_pushesOut_102 (by decide) (fun c1 => ?_) (fun c1 => ?_)
  · replace h := h.1 c1
    refine a_iconst dX11_pushesOut_111 (by decide) ?_
    refine a_ior dX11_pushesOut_112 ?_
    refine b_istore_n (L' := [(0, .inr 399), (1, .inl v1), (2, .inl (iOr v2 0)), (3, .inl v3), (4, .inl v4)]) [1, 2, 0, 3, 4] dX11_pushesOut_113 rfl (Nat.le_of_ble_eq_true rfl) rfl ?_
    obtain ⟨q2, h⟩ := h
    refine b_iinc (L' := [(0, .inr 399), (1, .inl v1), (2, .inl (iOr v2 0)), (3, .inl (v3 + 1)), (4, .inl v4)]) (k := 3) [1, 2, 3, 0, 4] dX11_pushesOut_114 rfl q2 (Nat.le_of_ble_eq_true rfl) rfl ?_
    refine a_goto (tgt := 4) dX11_pushesOut_117 (by decide) ?_
    refine a_sub [0, 1, 2, 3] rfl ?_
    exact h
  · replace h := h.2 c1
    refine a_iconst dX11_pushesOut_105 (by decide) ?_
    refine a_iload_n (k := 3) dX11_pushesOut_106 rfl rfl ?_
    refine a_ishl dX11_pushesOut_107 ?_
    refine a_goto (tgt := 112) dX11_pushesOut_108 (by decide) ?_
    refine a_ior dX11_pushesOut_112 ?_
    refine b_istore_n (L' := [(0, .inr 399), (1, .inl v1), (2, .inl (iOr v2 (iShl 1 v3))), (3, .inl v3), (4, .inl v4)]) [1, 2, 0, 3, 4] dX11_pushesOut_113 rfl (Nat.le_of_ble_eq_true rfl) rfl ?_
    obtain ⟨q3, h⟩ := h
    refine b_iinc (L' := [(0, .inr 399), (1, .inl v1), (2, .inl (iOr v2 (iShl 1 v3))), (3, .inl (v3 + 1)), (4, .inl v4)]) (k := 3) [1, 2, 3, 0, 4] dX11_pushesOut_114 rfl q3 (Nat.le_of_ble_eq_true rfl) rfl ?_
    refine a_goto (tgt := 4) dX11_pushesOut_117 (by decide) ?_
    refine a_sub [0, 1, 2, 3] rfl ?_
    exact h
theorem b_X11_pushesOut_122 {G : GT} (hg : gx G = FX) {n : Nat} {μ : Mem} {Q : Int → Nat → Mem → Prop} {v2 v3 : Int}  (h : (((μ 402 2) ≤ v3 → (Q v2 n μ)) ∧ (¬ ((μ 402 2) ≤ v3) → (CI G Y_X11_has [.inl v2, .inl v3] n μ (fun (x2 : Int) (n3 : Nat) (μ4 : Mem) => ((x2 = 0 → ((inR (v3 + 1)) ∧ (B_X11_pushesOut_122 G Q n3 μ4 v2 (v3 + 1)))) ∧ (¬ (x2 = 0) → (CV G Y_X11_givesUp [.inr 399, .inl v3] n3 μ4 (fun (n8 : Nat) (μ9 : Mem) => ((inR (v3 + 1)) ∧ (B_X11_pushesOut_122 G Q n8 μ9 v2 (v3 + 1)))))))))))) : B_X11_pushesOut_122 G Q n μ v2 v3 := by
  show Wa G Y_X11_pushesOut (ZI G Y_X11_pushesOut Q) 0 0 n μ 122 [(0, .inr 399), (2, .inl v2), (3, .inl v3)] []
  refine a_iload_n (k := 2) dX11_pushesOut_122 rfl rfl ?_
  refine a_aload_n (k := 0) dX11_pushesOut_123 rfl rfl ?_
  refine gs_X11_16 rfl dX11_pushesOut_124 hg St_399 ?_
  refine a_iconst dX11_pushesOut_127 (by decide) ?_
  refine a_iaload dX11_pushesOut_128 (St_ho hg St_402) (by decide) (by decide) ?_
  refine a_icmp_ge (tgt := 151) dX11_pushesOut_129 (by decide) (fun c1 => ?_) (fun c1 => ?_)
  · replace h := h.1 c1
    refine a_iload_n (k := 1) dX11_pushesOut_151 rfl rfl ?_
    exact a_iret dX11_pushesOut_152 rfl (Nat.le_of_ble_eq_true rfl) (Nat.le_of_ble_eq_true rfl) h
  · replace h := h.2 c1
    refine a_iload_n (k := 1) dX11_pushesOut_132 rfl rfl ?_
    refine a_iload_n (k := 2) dX11_pushesOut_133 rfl rfl ?_
    refine k_X11_172 rfl dX11_pushesOut_134 (Nat.le_of_ble_eq_true rfl) rfl (Nat.le_of_ble_eq_true rfl) (Nat.le_of_ble_eq_true rfl) h (fun x2 n3 μ4 h => ?_)
    refine a_if_eq (tgt := 145) dX11_pushesOut_137 (by decide) (fun c5 => ?_) (fun c5 => ?_)
    · replace h := h.1 c5
      obtain ⟨q6, h⟩ := h
      refine b_iinc (L' := [(0, .inr 399), (2, .inl v2), (3, .inl (v3 + 1))]) (k := 2) [1, 2, 0] dX11_pushesOut_145 rfl q6 (Nat.le_of_ble_eq_true rfl) rfl ?_
      refine a_goto (tgt := 122) dX11_pushesOut_148 (by decide) ?_
      exact h
    · replace h := h.2 c5
      refine a_aload_n (k := 0) dX11_pushesOut_140 rfl rfl ?_
      refine a_iload_n (k := 2) dX11_pushesOut_141 rfl rfl ?_
      refine k_X11_176 rfl dX11_pushesOut_142 (Nat.le_of_ble_eq_true rfl) rfl (Nat.le_of_ble_eq_true rfl) (Nat.le_of_ble_eq_true rfl) (St_ho hg St_399) h (fun n8 μ9 h => ?_)
      obtain ⟨q10, h⟩ := h
      refine b_iinc (L' := [(0, .inr 399), (2, .inl v2), (3, .inl (v3 + 1))]) (k := 2) [1, 2, 0] dX11_pushesOut_145 rfl q10 (Nat.le_of_ble_eq_true rfl) rfl ?_
      refine a_goto (tgt := 122) dX11_pushesOut_148 (by decide) ?_
      exact h
abbrev B_X11_plans_62 (G : GT) (Q : Int → Nat → Mem → Prop) (n : Nat) (μ : Mem) (v1 : Int) (u0 : Int) : Prop := Wa G Y_X11_plans (ZI G Y_X11_plans Q) 0 0 n μ 62 [(0, .inr 399), (1, .inl v1)] [.inl u0]
abbrev B_X11_plans_99 (G : GT) (Q : Int → Nat → Mem → Prop) (n : Nat) (μ : Mem) (v1 : Int) (v3 : Int) (u0 : Int) : Prop := Wa G Y_X11_plans (ZI G Y_X11_plans Q) 0 0 n μ 99 [(0, .inr 399), (1, .inl v1), (3, .inl v3)] [.inl u0]
abbrev B_X11_plans_168 (G : GT) (Q : Int → Nat → Mem → Prop) (n : Nat) (μ : Mem) (v1 : Int) (v3 : Int) (v4 : Int) (v5 : Int) (u0 : Int) (u1 : Int) (u2 : Int) : Prop := Wa G Y_X11_plans (ZI G Y_X11_plans Q) 0 0 n μ 168 [(0, .inr 399), (1, .inl v1), (3, .inl v3), (4, .inl v4), (5, .inl v5)] [.inl u0, .inl u1, .inr u2]
abbrev B_X11_plans_211 (G : GT) (Q : Int → Nat → Mem → Prop) (n : Nat) (μ : Mem) (v1 : Int) (v6 : Int) : Prop := Wa G Y_X11_plans (ZI G Y_X11_plans Q) 0 0 n μ 211 [(0, .inr 399), (1, .inl v1), (6, .inl v6)] []
theorem m_X11_plans {G : GT} (hg : gx G = FX) {n : Nat} {μ : Mem} {Q : Int → Nat → Mem → Prop} {v1 : Int}  (h : (CV G Y_X11_givesUp [.inr 399, .inl v1] n μ (fun (n2 : Nat) (μ3 : Mem) => (CI G Y_X11_stateOf [.inr 399, .inl v1] n2 μ3 (fun (x4 : Int) (n5 : Nat) (μ6 : Mem) => ((x4 = 2 → (Q 0 n5 μ6)) ∧ (¬ (x4 = 2) → ((x4 = 4 → (Q 0 n5 μ6)) ∧ (¬ (x4 = 4) → ((¬ (x4 = 3) → (CI G Y_X11_isOn [.inr 399, .inl v1] n5 μ6 (fun (x10 : Int) (n11 : Nat) (μ12 : Mem) => ((x10 = 0 → (CI G Y_X11_its [.inr 399, .inl v1, .inl 4] n11 μ12 (fun (x14 : Int) (n15 : Nat) (μ16 : Mem) => (B_X11_plans_62 G Q n15 μ16 v1 x14)))) ∧ (¬ (x10 = 0) → (CI G Y_X11_its [.inr 399, .inl v1, .inl 7] n11 μ12 (fun (x17 : Int) (n18 : Nat) (μ19 : Mem) => ((inR (6 * x17)) ∧ ((inR ((6 * x17) + 1)) ∧ (((0 : Int) ≤ (6 * x17) + 1 ∧ (6 * x17) + 1 < 48) ∧ (B_X11_plans_62 G Q n18 μ19 v1 (μ19 400 ((6 * x17) + 1))))))))))))) ∧ (x4 = 3 → (Q 0 n5 μ6)))))))))))) : CI G Y_X11_plans [.inr 399, .inl v1] n μ Q := by
  refine e_I (by decide) (Nat.le_of_ble_eq_true rfl) ?_
  show Wa G Y_X11_plans (ZI G Y_X11_plans Q) 0 0 n μ 0 [(0, .inr 399), (1, .inl v1)] []
  refine a_aload_n (k := 0) dX11_plans_0 rfl rfl ?_
  refine a_iload_n (k := 1) dX11_plans_1 rfl rfl ?_
  refine k_X11_176 rfl dX11_plans_2 (Nat.le_of_ble_eq_true rfl) rfl (Nat.le_of_ble_eq_true rfl) (Nat.le_of_ble_eq_true rfl) (St_ho hg St_399) h (fun n2 μ3 h => ?_)
  refine a_aload_n (k := 0) dX11_plans_5 rfl rfl ?_
  refine a_iload_n (k := 1) dX11_plans_6 rfl rfl ?_
  refine k_X11_140 rfl dX11_plans_7 (Nat.le_of_ble_eq_true rfl) rfl (Nat.le_of_ble_eq_true rfl) (Nat.le_of_ble_eq_true rfl) (St_ho hg St_399) h (fun x4 n5 μ6 h => ?_)
  refine b_istore_n (L' := [(0, .inr 399), (1, .inl v1), (2, .inl x4)]) [1, 2, 0] dX11_plans_10 rfl (Nat.le_of_ble_eq_true rfl) rfl ?_
  refine a_iload_n (k := 2) dX11_plans_11 rfl rfl ?_
  refine a_iconst dX11_plans_12 (by decide) ?_
  refine a_icmp_eq (tgt := 26) dX11_plans_13 (by decide) (fun c7 => ?_) (fun c7 => ?_)
  · replace h := h.1 c7
    refine a_iconst dX11_plans_26 (by decide) ?_
    exact a_iret dX11_plans_27 rfl (Nat.le_of_ble_eq_true rfl) (Nat.le_of_ble_eq_true rfl) h
  · replace h := h.2 c7
    refine a_iload_n (k := 2) dX11_plans_16 rfl rfl ?_
    refine a_iconst dX11_plans_17 (by decide) ?_
    refine a_icmp_eq (tgt := 26) dX11_plans_18 (by decide) (fun c8 => ?_) (fun c8 => ?_)
    · replace h := h.1 c8
      refine a_iconst dX11_plans_26 (by decide) ?_
      exact a_iret dX11_plans_27 rfl (Nat.le_of_ble_eq_true rfl) (Nat.le_of_ble_eq_true rfl) h
    · replace h := h.2 c8
      refine a_iload_n (k := 2) dX11_plans_21 rfl rfl ?_
      refine a_iconst dX11_plans_22 (by decide) ?_
      refine a_icmp_ne (tgt := 28) dX11_plans_23 (by decide) (fun c9 => ?_) (fun c9 => ?_)
      · replace h := h.1 c9
        refine a_aload_n (k := 0) dX11_plans_28 rfl rfl ?_
        refine a_iload_n (k := 1) dX11_plans_29 rfl rfl ?_
        refine k_X11_134 rfl dX11_plans_30 (Nat.le_of_ble_eq_true rfl) rfl (Nat.le_of_ble_eq_true rfl) (Nat.le_of_ble_eq_true rfl) (St_ho hg St_399) h (fun x10 n11 μ12 h => ?_)
        refine a_if_eq (tgt := 56) dX11_plans_33 (by decide) (fun c13 => ?_) (fun c13 => ?_)
        · replace h := h.1 c13
          refine a_aload_n (k := 0) dX11_plans_56 rfl rfl ?_
          refine a_iload_n (k := 1) dX11_plans_57 rfl rfl ?_
          refine a_iconst dX11_plans_58 (by decide) ?_
          refine k_X11_127 rfl dX11_plans_59 (Nat.le_of_ble_eq_true rfl) rfl (Nat.le_of_ble_eq_true rfl) (Nat.le_of_ble_eq_true rfl) (St_ho hg St_399) h (fun x14 n15 μ16 h => ?_)
          refine a_sub [0, 1] rfl ?_
          exact h
        · replace h := h.2 c13
          refine a_aload_n (k := 0) dX11_plans_36 rfl rfl ?_
          refine gs_X11_7 rfl dX11_plans_37 hg St_399 ?_
          refine a_bipush dX11_plans_40 (by decide) (by decide) ?_
          refine a_aload_n (k := 0) dX11_plans_42 rfl rfl ?_
          refine a_iload_n (k := 1) dX11_plans_43 rfl rfl ?_
          refine a_bipush dX11_plans_44 (by decide) (by decide) ?_
          refine k_X11_127 rfl dX11_plans_46 (Nat.le_of_ble_eq_true rfl) rfl (Nat.le_of_ble_eq_true rfl) (Nat.le_of_ble_eq_true rfl) (St_ho hg St_399) h (fun x17 n18 μ19 h => ?_)
          obtain ⟨q20, h⟩ := h
          refine a_imul dX11_plans_49 q20 ?_
          refine a_iconst dX11_plans_50 (by decide) ?_
          obtain ⟨q21, h⟩ := h
          refine a_iadd dX11_plans_51 q21 ?_
          obtain ⟨q22, h⟩ := h
          refine a_iaload dX11_plans_52 (St_ho hg St_400) q22.1 q22.2 ?_
          refine a_goto (tgt := 62) dX11_plans_53 (by decide) ?_
          refine a_sub [0, 1] rfl ?_
          exact h
      · replace h := h.2 c9
        refine a_iconst dX11_plans_26 (by decide) ?_
        exact a_iret dX11_plans_27 rfl (Nat.le_of_ble_eq_true rfl) (Nat.le_of_ble_eq_true rfl) h
theorem b_X11_plans_62 {G : GT} (hg : gx G = FX) {n : Nat} {μ : Mem} {Q : Int → Nat → Mem → Prop} {v1 u0 : Int}  (h : (CI G Y_X11_isOn [.inr 399, .inl v1] n μ (fun (x1 : Int) (n2 : Nat) (μ3 : Mem) => ((x1 = 0 → (B_X11_plans_99 G Q n2 μ3 v1 u0 (μ3 402 0))) ∧ (¬ (x1 = 0) → (CI G Y_X11_its [.inr 399, .inl v1, .inl 7] n2 μ3 (fun (x5 : Int) (n6 : Nat) (μ7 : Mem) => (CI G Y_X11_its [.inr 399, .inl v1, .inl 8] n6 μ7 (fun (x8 : Int) (n9 : Nat) (μ10 : Mem) => (CI G Y_X11_arrival [.inr 399, .inl v1, .inl x5, .inl x8] n9 μ10 (fun (x11 : Int) (n12 : Nat) (μ13 : Mem) => (B_X11_plans_99 G Q n12 μ13 v1 u0 x11)))))))))))) : B_X11_plans_62 G Q n μ v1 u0 := by
  show Wa G Y_X11_plans (ZI G Y_X11_plans Q) 0 0 n μ 62 [(0, .inr 399), (1, .inl v1)] [.inl u0]
  refine b_istore_n (L' := [(0, .inr 399), (1, .inl v1), (3, .inl u0)]) [1, 2, 0] dX11_plans_62 rfl (Nat.le_of_ble_eq_true rfl) rfl ?_
  refine a_aload_n (k := 0) dX11_plans_63 rfl rfl ?_
  refine a_iload_n (k := 1) dX11_plans_64 rfl rfl ?_
  refine k_X11_134 rfl dX11_plans_65 (Nat.le_of_ble_eq_true rfl) rfl (Nat.le_of_ble_eq_true rfl) (Nat.le_of_ble_eq_true rfl) (St_ho hg St_399) h (fun x1 n2 μ3 h => ?_)
  refine a_if_eq (tgt := 93) dX11_plans_68 (by decide) (fun c4 => ?_) (fun c4 => ?_)
  · replace h := h.1 c4
    refine a_aload_n (k := 0) dX11_plans_93 rfl rfl ?_
    refine gs_X11_16 rfl dX11_plans_94 hg St_399 ?_
    refine a_iconst dX11_plans_97 (by decide) ?_
    refine a_iaload dX11_plans_98 (St_ho hg St_402) (by decide) (by decide) ?_
    exact h
  · replace h := h.2 c4
    refine a_aload_n (k := 0) dX11_plans_71 rfl rfl ?_
    refine a_iload_n (k := 1) dX11_plans_72 rfl rfl ?_
    refine a_aload_n (k := 0) dX11_plans_73 rfl rfl ?_
    refine a_iload_n (k := 1) dX11_plans_74 rfl rfl ?_
    refine a_bipush dX11_plans_75 (by decide) (by decide) ?_
    refine k_X11_127 rfl dX11_plans_77 (Nat.le_of_ble_eq_true rfl) rfl (Nat.le_of_ble_eq_true rfl) (Nat.le_of_ble_eq_true rfl) (St_ho hg St_399) h (fun x5 n6 μ7 h => ?_)
    refine a_aload_n (k := 0) dX11_plans_80 rfl rfl ?_
    refine a_iload_n (k := 1) dX11_plans_81 rfl rfl ?_
    refine a_bipush dX11_plans_82 (by decide) (by decide) ?_
    refine k_X11_127 rfl dX11_plans_84 (Nat.le_of_ble_eq_true rfl) rfl (Nat.le_of_ble_eq_true rfl) (Nat.le_of_ble_eq_true rfl) (St_ho hg St_399) h (fun x8 n9 μ10 h => ?_)
    refine k_X11_180 rfl dX11_plans_87 (Nat.le_of_ble_eq_true rfl) rfl (Nat.le_of_ble_eq_true rfl) (Nat.le_of_ble_eq_true rfl) (St_ho hg St_399) h (fun x11 n12 μ13 h => ?_)
    refine a_goto (tgt := 99) dX11_plans_90 (by decide) ?_
    exact h
theorem b_X11_plans_99 {G : GT} (hg : gx G = FX) {n : Nat} {μ : Mem} {Q : Int → Nat → Mem → Prop} {v1 v3 u0 : Int}  (h : (CI G Y_X11_its [.inr 399, .inl v1, .inl 1] n μ (fun (x1 : Int) (n2 : Nat) (μ3 : Mem) => ((¬ (v3 = x1) → (CI G Y_X11_its [.inr 399, .inl v1, .inl 3] n2 μ3 (fun (x5 : Int) (n6 : Nat) (μ7 : Mem) => (CV G Y_X11_laysTaken [.inr 399, .inl v1, .inl x5] n6 μ7 (fun (n9 : Nat) (μ10 : Mem) => (CI G Y_X11_its [.inr 399, .inl v1, .inl 0] n9 μ10 (fun (x11 : Int) (n12 : Nat) (μ13 : Mem) => (CI G Y_X11_its [.inr 399, .inl v1, .inl 1] n12 μ13 (fun (x14 : Int) (n15 : Nat) (μ16 : Mem) => (CI G Y_X11_findsEnd [.inr 399, .inl x11, .inl v3, .inl u0, .inl x14, .inl (-9)] n15 μ16 (fun (x17 : Int) (n18 : Nat) (μ19 : Mem) => (CI G Y_X11_at [.inl v1] n18 μ19 (fun (x20 : Int) (n21 : Nat) (μ22 : Mem) => ((inR (x20 + 6)) ∧ ((x17 = 0 → (B_X11_plans_168 G Q n21 μ22 v1 v3 u0 x17 0 (x20 + 6) 402)) ∧ (¬ (x17 = 0) → (B_X11_plans_168 G Q n21 μ22 v1 v3 u0 x17 1 (x20 + 6) 402))))))))))))))))) ∧ (v3 = x1 → (Q 0 n2 μ3)))))) : B_X11_plans_99 G Q n μ v1 v3 u0 := by
  show Wa G Y_X11_plans (ZI G Y_X11_plans Q) 0 0 n μ 99 [(0, .inr 399), (1, .inl v1), (3, .inl v3)] [.inl u0]
  refine b_istore (L' := [(0, .inr 399), (1, .inl v1), (3, .inl v3), (4, .inl u0)]) [1, 2, 3, 0] dX11_plans_99 (Nat.le_of_ble_eq_true rfl) rfl ?_
  refine a_iload_n (k := 2) dX11_plans_101 rfl rfl ?_
  refine a_aload_n (k := 0) dX11_plans_102 rfl rfl ?_
  refine a_iload_n (k := 1) dX11_plans_103 rfl rfl ?_
  refine a_iconst dX11_plans_104 (by decide) ?_
  refine k_X11_127 rfl dX11_plans_105 (Nat.le_of_ble_eq_true rfl) rfl (Nat.le_of_ble_eq_true rfl) (Nat.le_of_ble_eq_true rfl) (St_ho hg St_399) h (fun x1 n2 μ3 h => ?_)
  refine a_icmp_ne (tgt := 113) dX11_plans_108 (by decide) (fun c4 => ?_) (fun c4 => ?_)
  · replace h := h.1 c4
    refine a_aload_n (k := 0) dX11_plans_113 rfl rfl ?_
    refine a_iload_n (k := 1) dX11_plans_114 rfl rfl ?_
    refine a_aload_n (k := 0) dX11_plans_115 rfl rfl ?_
    refine a_iload_n (k := 1) dX11_plans_116 rfl rfl ?_
    refine a_iconst dX11_plans_117 (by decide) ?_
    refine k_X11_127 rfl dX11_plans_118 (Nat.le_of_ble_eq_true rfl) rfl (Nat.le_of_ble_eq_true rfl) (Nat.le_of_ble_eq_true rfl) (St_ho hg St_399) h (fun x5 n6 μ7 h => ?_)
    refine k_X11_183 rfl dX11_plans_121 (Nat.le_of_ble_eq_true rfl) rfl (Nat.le_of_ble_eq_true rfl) (Nat.le_of_ble_eq_true rfl) (St_ho hg St_399) h (fun n9 μ10 h => ?_)
    refine a_aload_n (k := 0) dX11_plans_124 rfl rfl ?_
    refine a_aload_n (k := 0) dX11_plans_125 rfl rfl ?_
    refine a_iload_n (k := 1) dX11_plans_126 rfl rfl ?_
    refine a_iconst dX11_plans_127 (by decide) ?_
    refine k_X11_127 rfl dX11_plans_128 (Nat.le_of_ble_eq_true rfl) rfl (Nat.le_of_ble_eq_true rfl) (Nat.le_of_ble_eq_true rfl) (St_ho hg St_399) h (fun x11 n12 μ13 h => ?_)
    refine a_iload_n (k := 2) dX11_plans_131 rfl rfl ?_
    refine a_iload (k := 3) dX11_plans_132 rfl ?_
    refine a_aload_n (k := 0) dX11_plans_134 rfl rfl ?_
    refine a_iload_n (k := 1) dX11_plans_135 rfl rfl ?_
    refine a_iconst dX11_plans_136 (by decide) ?_
    refine k_X11_127 rfl dX11_plans_137 (Nat.le_of_ble_eq_true rfl) rfl (Nat.le_of_ble_eq_true rfl) (Nat.le_of_ble_eq_true rfl) (St_ho hg St_399) h (fun x14 n15 μ16 h => ?_)
    refine a_bipush dX11_plans_140 (by decide) (by decide) ?_
    refine k_X11_187 rfl dX11_plans_142 (Nat.le_of_ble_eq_true rfl) rfl (Nat.le_of_ble_eq_true rfl) (Nat.le_of_ble_eq_true rfl) (St_ho hg St_399) h (fun x17 n18 μ19 h => ?_)
    refine b_istore (L' := [(0, .inr 399), (1, .inl v1), (3, .inl v3), (4, .inl u0), (5, .inl x17)]) [1, 2, 3, 4, 0] dX11_plans_145 (Nat.le_of_ble_eq_true rfl) rfl ?_
    refine a_aload_n (k := 0) dX11_plans_147 rfl rfl ?_
    refine gs_X11_16 rfl dX11_plans_148 hg St_399 ?_
    refine a_iload_n (k := 1) dX11_plans_151 rfl rfl ?_
    refine k_X11_123 rfl dX11_plans_152 (Nat.le_of_ble_eq_true rfl) rfl (Nat.le_of_ble_eq_true rfl) (Nat.le_of_ble_eq_true rfl) h (fun x20 n21 μ22 h => ?_)
    refine a_bipush dX11_plans_155 (by decide) (by decide) ?_
    obtain ⟨q23, h⟩ := h
    refine a_iadd dX11_plans_157 q23 ?_
    refine a_iload (k := 4) dX11_plans_158 rfl ?_
    refine a_if_eq (tgt := 167) dX11_plans_160 (by decide) (fun c24 => ?_) (fun c24 => ?_)
    · replace h := h.1 c24
      refine a_iconst dX11_plans_167 (by decide) ?_
      exact h
    · replace h := h.2 c24
      refine a_iconst dX11_plans_163 (by decide) ?_
      refine a_goto (tgt := 168) dX11_plans_164 (by decide) ?_
      exact h
  · replace h := h.2 c4
    refine a_iconst dX11_plans_111 (by decide) ?_
    exact a_iret dX11_plans_112 rfl (Nat.le_of_ble_eq_true rfl) (Nat.le_of_ble_eq_true rfl) h
theorem b_X11_plans_168 {G : GT} (hg : gx G = FX) {n : Nat} {μ : Mem} {Q : Int → Nat → Mem → Prop} {v1 v3 v4 v5 u0 u1 u2 : Int} {Nu2 : Nat} (ou2 : St u2 20 Nu2) (h : (((0 : Int) ≤ u1 ∧ u1 < (Nu2 : Int)) ∧ ((v5 = 0 → (Q 0 n (up μ u2 u1 u0))) ∧ (¬ (v5 = 0) → (CI G Y_X11_its [.inr 399, .inl v1, .inl 2] n (up μ u2 u1 u0) (fun (x3 : Int) (n4 : Nat) (μ5 : Mem) => ((((up μ u2 u1 u0) 399 27) ≤ x3 → (CI G Y_X11_its [.inr 399, .inl v1, .inl 0] n4 μ5 (fun (x7 : Int) (n8 : Nat) (μ9 : Mem) => (CI G Y_X11_its [.inr 399, .inl v1, .inl 1] n8 μ9 (fun (x10 : Int) (n11 : Nat) (μ12 : Mem) => (CV G Y_X11_findsWay [.inr 399, .inl x7, .inl v3, .inl v4, .inl x10] n11 μ12 (fun (n14 : Nat) (μ15 : Mem) => (B_X11_plans_211 G Q n14 μ15 v1 0)))))))) ∧ (¬ (((up μ u2 u1 u0) 399 27) ≤ x3) → (Q 0 n4 μ5))))))))) : B_X11_plans_168 G Q n μ v1 v3 v4 v5 u0 u1 u2 := by
  show Wa G Y_X11_plans (ZI G Y_X11_plans Q) 0 0 n μ 168 [(0, .inr 399), (1, .inl v1), (3, .inl v3), (4, .inl v4), (5, .inl v5)] [.inl u0, .inl u1, .inr u2]
  obtain ⟨q1, h⟩ := h
  refine a_iastore dX11_plans_168 (St_ho hg ou2) q1.1 q1.2 (FX_put hg ou2 rfl) ?_
  refine a_iload (k := 4) dX11_plans_169 rfl ?_
  refine a_if_eq (tgt := 187) dX11_plans_171 (by decide) (fun c2 => ?_) (fun c2 => ?_)
  · replace h := h.1 c2
    refine a_iconst dX11_plans_187 (by decide) ?_
    exact a_iret dX11_plans_188 rfl (Nat.le_of_ble_eq_true rfl) (Nat.le_of_ble_eq_true rfl) h
  · replace h := h.2 c2
    refine a_aload_n (k := 0) dX11_plans_174 rfl rfl ?_
    refine g_X11_158 rfl dX11_plans_175 (St_ho hg St_399) ?_
    refine a_aload_n (k := 0) dX11_plans_178 rfl rfl ?_
    refine a_iload_n (k := 1) dX11_plans_179 rfl rfl ?_
    refine a_iconst dX11_plans_180 (by decide) ?_
    refine k_X11_127 rfl dX11_plans_181 (Nat.le_of_ble_eq_true rfl) rfl (Nat.le_of_ble_eq_true rfl) (Nat.le_of_ble_eq_true rfl) (St_ho hg St_399) h (fun x3 n4 μ5 h => ?_)
    refine a_icmp_le (tgt := 189) dX11_plans_184 (by decide) (fun c6 => ?_) (fun c6 => ?_)
    · replace h := h.1 c6
      refine a_aload_n (k := 0) dX11_plans_189 rfl rfl ?_
      refine a_aload_n (k := 0) dX11_plans_190 rfl rfl ?_
      refine a_iload_n (k := 1) dX11_plans_191 rfl rfl ?_
      refine a_iconst dX11_plans_192 (by decide) ?_
      refine k_X11_127 rfl dX11_plans_193 (Nat.le_of_ble_eq_true rfl) rfl (Nat.le_of_ble_eq_true rfl) (Nat.le_of_ble_eq_true rfl) (St_ho hg St_399) h (fun x7 n8 μ9 h => ?_)
      refine a_iload_n (k := 2) dX11_plans_196 rfl rfl ?_
      refine a_iload (k := 3) dX11_plans_197 rfl ?_
      refine a_aload_n (k := 0) dX11_plans_199 rfl rfl ?_
      refine a_iload_n (k := 1) dX11_plans_200 rfl rfl ?_
      refine a_iconst dX11_plans_201 (by decide) ?_
      refine k_X11_127 rfl dX11_plans_202 (Nat.le_of_ble_eq_true rfl) rfl (Nat.le_of_ble_eq_true rfl) (Nat.le_of_ble_eq_true rfl) (St_ho hg St_399) h (fun x10 n11 μ12 h => ?_)
      refine k_X11_191 rfl dX11_plans_205 (Nat.le_of_ble_eq_true rfl) rfl (Nat.le_of_ble_eq_true rfl) (Nat.le_of_ble_eq_true rfl) (St_ho hg St_399) h (fun n14 μ15 h => ?_)
      refine a_iconst dX11_plans_208 (by decide) ?_
      refine b_istore (L' := [(0, .inr 399), (1, .inl v1), (3, .inl v3), (4, .inl v4), (5, .inl v5), (6, .inl 0)]) [1, 2, 3, 4, 5, 0] dX11_plans_209 (Nat.le_of_ble_eq_true rfl) rfl ?_
      refine a_sub [0, 1, 5] rfl ?_
      exact h
    · replace h := h.2 c6
      refine a_iconst dX11_plans_187 (by decide) ?_
      exact a_iret dX11_plans_188 rfl (Nat.le_of_ble_eq_true rfl) (Nat.le_of_ble_eq_true rfl) h
theorem b_X11_plans_211 {G : GT} (hg : gx G = FX) {n : Nat} {μ : Mem} {Q : Int → Nat → Mem → Prop} {v1 v6 : Int}  (h : (((μ 399 24) ≤ v6 → (CI G Y_X11_at [.inl v1] n μ (fun (x2 : Int) (n3 : Nat) (μ4 : Mem) => ((inR (x2 + 9)) ∧ (((0 : Int) ≤ x2 + 9 ∧ x2 + 9 < 163) ∧ (CI G Y_X11_pushesOut [.inr 399, .inl v1] n3 (up μ4 402 (x2 + 9) (μ4 399 24)) (fun (x7 : Int) (n8 : Nat) (μ9 : Mem) => (Q x7 n8 μ9)))))))) ∧ (¬ ((μ 399 24) ≤ v6) → (CI G Y_X11_at [.inl v1] n μ (fun (x10 : Int) (n11 : Nat) (μ12 : Mem) => ((inR (x10 + 10)) ∧ ((inR (2 * v6)) ∧ ((inR ((x10 + 10) + (2 * v6))) ∧ (((0 : Int) ≤ v6 ∧ v6 < 5) ∧ (((0 : Int) ≤ (x10 + 10) + (2 * v6) ∧ (x10 + 10) + (2 * v6) < 163) ∧ (CI G Y_X11_at [.inl v1] n11 (up μ12 402 ((x10 + 10) + (2 * v6)) (μ12 413 v6)) (fun (x18 : Int) (n19 : Nat) (μ20 : Mem) => ((inR (x18 + 10)) ∧ ((inR (2 * v6)) ∧ ((inR ((x18 + 10) + (2 * v6))) ∧ ((inR (((x18 + 10) + (2 * v6)) + 1)) ∧ (((0 : Int) ≤ v6 ∧ v6 < 5) ∧ (((0 : Int) ≤ ((x18 + 10) + (2 * v6)) + 1 ∧ ((x18 + 10) + (2 * v6)) + 1 < 163) ∧ ((inR (v6 + 1)) ∧ (B_X11_plans_211 G Q n19 (up μ20 402 (((x18 + 10) + (2 * v6)) + 1) (μ20 414 v6)) v1 (v6 + 1))))))))))))))))))))) : B_X11_plans_211 G Q n μ v1 v6 := by
  show Wa G Y_X11_plans (ZI G Y_X11_plans Q) 0 0 n μ 211 [(0, .inr 399), (1, .inl v1), (6, .inl v6)] []
  refine a_iload (k := 2) dX11_plans_211 rfl ?_
  refine a_aload_n (k := 0) dX11_plans_213 rfl rfl ?_
  refine g_X11_161 rfl dX11_plans_214 (St_ho hg St_399) ?_
  refine a_icmp_ge (tgt := 276) dX11_plans_217 (by decide) (fun c1 => ?_) (fun c1 => ?_)
  · replace h := h.1 c1
    refine a_aload_n (k := 0) dX11_plans_276 rfl rfl ?_
    refine gs_X11_16 rfl dX11_plans_277 hg St_399 ?_
    refine a_iload_n (k := 1) dX11_plans_280 rfl rfl ?_
    refine k_X11_123 rfl dX11_plans_281 (Nat.le_of_ble_eq_true rfl) rfl (Nat.le_of_ble_eq_true rfl) (Nat.le_of_ble_eq_true rfl) h (fun x2 n3 μ4 h => ?_)
    refine a_bipush dX11_plans_284 (by decide) (by decide) ?_
    obtain ⟨q5, h⟩ := h
    refine a_iadd dX11_plans_286 q5 ?_
    refine a_aload_n (k := 0) dX11_plans_287 rfl rfl ?_
    refine g_X11_161 rfl dX11_plans_288 (St_ho hg St_399) ?_
    obtain ⟨q6, h⟩ := h
    refine a_iastore dX11_plans_291 (St_ho hg St_402) q6.1 q6.2 (FX_put hg St_402 rfl) ?_
    refine a_aload_n (k := 0) dX11_plans_292 rfl rfl ?_
    refine a_iload_n (k := 1) dX11_plans_293 rfl rfl ?_
    refine k_X11_195 rfl dX11_plans_294 (Nat.le_of_ble_eq_true rfl) rfl (Nat.le_of_ble_eq_true rfl) (Nat.le_of_ble_eq_true rfl) (St_ho hg St_399) h (fun x7 n8 μ9 h => ?_)
    exact a_iret dX11_plans_297 rfl (Nat.le_of_ble_eq_true rfl) (Nat.le_of_ble_eq_true rfl) h
  · replace h := h.2 c1
    refine a_aload_n (k := 0) dX11_plans_220 rfl rfl ?_
    refine gs_X11_16 rfl dX11_plans_221 hg St_399 ?_
    refine a_iload_n (k := 1) dX11_plans_224 rfl rfl ?_
    refine k_X11_123 rfl dX11_plans_225 (Nat.le_of_ble_eq_true rfl) rfl (Nat.le_of_ble_eq_true rfl) (Nat.le_of_ble_eq_true rfl) h (fun x10 n11 μ12 h => ?_)
    refine a_bipush dX11_plans_228 (by decide) (by decide) ?_
    obtain ⟨q13, h⟩ := h
    refine a_iadd dX11_plans_230 q13 ?_
    refine a_iconst dX11_plans_231 (by decide) ?_
    refine a_iload (k := 2) dX11_plans_232 rfl ?_
    obtain ⟨q14, h⟩ := h
    refine a_imul dX11_plans_234 q14 ?_
    obtain ⟨q15, h⟩ := h
    refine a_iadd dX11_plans_235 q15 ?_
    refine a_aload_n (k := 0) dX11_plans_236 rfl rfl ?_
    refine gs_X11_50 rfl dX11_plans_237 hg St_399 ?_
    refine a_iload (k := 2) dX11_plans_240 rfl ?_
    obtain ⟨q16, h⟩ := h
    refine a_iaload dX11_plans_242 (St_ho hg St_413) q16.1 q16.2 ?_
    obtain ⟨q17, h⟩ := h
    refine a_iastore dX11_plans_243 (St_ho hg St_402) q17.1 q17.2 (FX_put hg St_402 rfl) ?_
    refine a_aload_n (k := 0) dX11_plans_244 rfl rfl ?_
    refine gs_X11_16 rfl dX11_plans_245 hg St_399 ?_
    refine a_iload_n (k := 1) dX11_plans_248 rfl rfl ?_
    refine k_X11_123 rfl dX11_plans_249 (Nat.le_of_ble_eq_true rfl) rfl (Nat.le_of_ble_eq_true rfl) (Nat.le_of_ble_eq_true rfl) h (fun x18 n19 μ20 h => ?_)
    refine a_bipush dX11_plans_252 (by decide) (by decide) ?_
    obtain ⟨q21, h⟩ := h
    refine a_iadd dX11_plans_254 q21 ?_
    refine a_iconst dX11_plans_255 (by decide) ?_
    refine a_iload (k := 2) dX11_plans_256 rfl ?_
    obtain ⟨q22, h⟩ := h
    refine a_imul dX11_plans_258 q22 ?_
    obtain ⟨q23, h⟩ := h
    refine a_iadd dX11_plans_259 q23 ?_
    refine a_iconst dX11_plans_260 (by decide) ?_
    obtain ⟨q24, h⟩ := h
    refine a_iadd dX11_plans_261 q24 ?_
    refine a_aload_n (k := 0) dX11_plans_262 rfl rfl ?_
    refine gs_X11_53 rfl dX11_plans_263 hg St_399 ?_
    refine a_iload (k := 2) dX11_plans_266 rfl ?_
    obtain ⟨q25, h⟩ := h
    refine a_iaload dX11_plans_268 (St_ho hg St_414) q25.1 q25.2 ?_
    obtain ⟨q26, h⟩ := h
    refine a_iastore dX11_plans_269 (St_ho hg St_402) q26.1 q26.2 (FX_put hg St_402 rfl) ?_
    obtain ⟨q27, h⟩ := h
    refine b_iinc (L' := [(0, .inr 399), (1, .inl v1), (6, .inl (v6 + 1))]) (k := 2) [1, 2, 0] dX11_plans_270 rfl q27 (Nat.le_of_ble_eq_true rfl) rfl ?_
    refine a_goto (tgt := 211) dX11_plans_273 (by decide) ?_
    exact h
abbrev B_X11_plansAll_2 (G : GT) (Q : Nat → Mem → Prop) (n : Nat) (μ : Mem) (v2 : Int) : Prop := Wa G Y_X11_plansAll (ZV G Y_X11_plansAll Q) 0 0 n μ 2 [(0, .inr 399), (2, .inl v2)] []
abbrev B_X11_plansAll_12 (G : GT) (Q : Nat → Mem → Prop) (n : Nat) (μ : Mem) (v2 : Int) (v3 : Int) (v4 : Int) : Prop := Wa G Y_X11_plansAll (ZV G Y_X11_plansAll Q) 0 0 n μ 12 [(0, .inr 399), (2, .inl v2), (3, .inl v3), (4, .inl v4)] []
abbrev B_X11_plansAll_54 (G : GT) (Q : Nat → Mem → Prop) (n : Nat) (μ : Mem) (v2 : Int) (v4 : Int) : Prop := Wa G Y_X11_plansAll (ZV G Y_X11_plansAll Q) 0 0 n μ 54 [(0, .inr 399), (2, .inl v2), (4, .inl v4)] []
theorem m_X11_plansAll {G : GT} (hg : gx G = FX) {n : Nat} {μ : Mem} {Q : Nat → Mem → Prop} {v1 : Int}  (h : (B_X11_plansAll_2 G Q n μ v1)) : CV G Y_X11_plansAll [.inr 399, .inl v1] n μ Q := by
  refine e_V (by decide) (Nat.le_of_ble_eq_true rfl) ?_
  show Wa G Y_X11_plansAll (ZV G Y_X11_plansAll Q) 0 0 n μ 0 [(0, .inr 399), (1, .inl v1)] []
  refine a_iload_n (k := 1) dX11_plansAll_0 rfl rfl ?_
  refine b_istore_n (L' := [(0, .inr 399), (1, .inl v1), (2, .inl v1)]) [1, 2, 0] dX11_plansAll_1 rfl (Nat.le_of_ble_eq_true rfl) rfl ?_
  refine a_sub [0, 2] rfl ?_
  exact h
theorem b_X11_plansAll_2 {G : GT} (hg : gx G = FX) {n : Nat} {μ : Mem} {Q : Nat → Mem → Prop} {v2 : Int}  (h : ((v2 = 0 → (Q n μ)) ∧ (¬ (v2 = 0) → (B_X11_plansAll_12 G Q n μ v2 (-9) 0)))) : B_X11_plansAll_2 G Q n μ v2 := by
  show Wa G Y_X11_plansAll (ZV G Y_X11_plansAll Q) 0 0 n μ 2 [(0, .inr 399), (2, .inl v2)] []
  refine a_iload_n (k := 1) dX11_plansAll_2 rfl rfl ?_
  refine a_if_eq (tgt := 86) dX11_plansAll_3 (by decide) (fun c1 => ?_) (fun c1 => ?_)
  · replace h := h.1 c1
    exact a_ret dX11_plansAll_86 rfl (Nat.le_of_ble_eq_true rfl) (Nat.le_of_ble_eq_true rfl) h
  · replace h := h.2 c1
    refine a_bipush dX11_plansAll_6 (by decide) (by decide) ?_
    refine b_istore_n (L' := [(0, .inr 399), (2, .inl v2), (3, .inl (-9))]) [1, 2, 0] dX11_plansAll_8 rfl (Nat.le_of_ble_eq_true rfl) rfl ?_
    refine a_iconst dX11_plansAll_9 (by decide) ?_
    refine b_istore (L' := [(0, .inr 399), (2, .inl v2), (3, .inl (-9)), (4, .inl 0)]) [1, 2, 3, 0] dX11_plansAll_10 (Nat.le_of_ble_eq_true rfl) rfl ?_
    exact h
theorem b_X11_plansAll_12 {G : GT} (hg : gx G = FX) {n : Nat} {μ : Mem} {Q : Nat → Mem → Prop} {v2 v3 v4 : Int}  (h : (((μ 402 2) ≤ v4 → (CI G Y_X11_plans [.inr 399, .inl v3] n μ (fun (x2 : Int) (n3 : Nat) (μ4 : Mem) => (B_X11_plansAll_2 G Q n3 μ4 (iOr (iAnd v2 (iXor (iShl 1 v3) (-1))) x2))))) ∧ (¬ ((μ 402 2) ≤ v4) → (CI G Y_X11_has [.inl v2, .inl v4] n μ (fun (x5 : Int) (n6 : Nat) (μ7 : Mem) => ((x5 = 0 → ((inR (v4 + 1)) ∧ (B_X11_plansAll_12 G Q n6 μ7 v2 v3 (v4 + 1)))) ∧ (¬ (x5 = 0) → ((v3 = (-9) → (B_X11_plansAll_54 G Q n6 μ7 v2 v4)) ∧ (¬ (v3 = (-9)) → (CI G Y_X11_its [.inr 399, .inl v4, .inl 3] n6 μ7 (fun (x11 : Int) (n12 : Nat) (μ13 : Mem) => (CI G Y_X11_its [.inr 399, .inl v3, .inl 3] n12 μ13 (fun (x14 : Int) (n15 : Nat) (μ16 : Mem) => ((x11 ≤ x14 → ((inR (v4 + 1)) ∧ (B_X11_plansAll_12 G Q n15 μ16 v2 v3 (v4 + 1)))) ∧ (¬ (x11 ≤ x14) → (B_X11_plansAll_54 G Q n15 μ16 v2 v4)))))))))))))))) : B_X11_plansAll_12 G Q n μ v2 v3 v4 := by
  show Wa G Y_X11_plansAll (ZV G Y_X11_plansAll Q) 0 0 n μ 12 [(0, .inr 399), (2, .inl v2), (3, .inl v3), (4, .inl v4)] []
  refine a_iload (k := 3) dX11_plansAll_12 rfl ?_
  refine a_aload_n (k := 0) dX11_plansAll_14 rfl rfl ?_
  refine gs_X11_16 rfl dX11_plansAll_15 hg St_399 ?_
  refine a_iconst dX11_plansAll_18 (by decide) ?_
  refine a_iaload dX11_plansAll_19 (St_ho hg St_402) (by decide) (by decide) ?_
  refine a_icmp_ge (tgt := 67) dX11_plansAll_20 (by decide) (fun c1 => ?_) (fun c1 => ?_)
  · replace h := h.1 c1
    refine a_iload_n (k := 1) dX11_plansAll_67 rfl rfl ?_
    refine a_iconst dX11_plansAll_68 (by decide) ?_
    refine a_iload_n (k := 2) dX11_plansAll_69 rfl rfl ?_
    refine a_ishl dX11_plansAll_70 ?_
    refine a_iconst dX11_plansAll_71 (by decide) ?_
    refine a_ixor dX11_plansAll_72 ?_
    refine a_iand dX11_plansAll_73 ?_
    refine b_istore_n (L' := [(0, .inr 399), (2, .inl (iAnd v2 (iXor (iShl 1 v3) (-1)))), (3, .inl v3), (4, .inl v4)]) [1, 0, 2, 3] dX11_plansAll_74 rfl (Nat.le_of_ble_eq_true rfl) rfl ?_
    refine a_iload_n (k := 1) dX11_plansAll_75 rfl rfl ?_
    refine a_aload_n (k := 0) dX11_plansAll_76 rfl rfl ?_
    refine a_iload_n (k := 2) dX11_plansAll_77 rfl rfl ?_
    refine k_X11_198 rfl dX11_plansAll_78 (Nat.le_of_ble_eq_true rfl) rfl (Nat.le_of_ble_eq_true rfl) (Nat.le_of_ble_eq_true rfl) (St_ho hg St_399) h (fun x2 n3 μ4 h => ?_)
    refine a_ior dX11_plansAll_81 ?_
    refine b_istore_n (L' := [(0, .inr 399), (2, .inl (iOr (iAnd v2 (iXor (iShl 1 v3) (-1))) x2)), (3, .inl v3), (4, .inl v4)]) [1, 0, 2, 3] dX11_plansAll_82 rfl (Nat.le_of_ble_eq_true rfl) rfl ?_
    refine a_goto (tgt := 2) dX11_plansAll_83 (by decide) ?_
    refine a_sub [0, 1] rfl ?_
    exact h
  · replace h := h.2 c1
    refine a_iload_n (k := 1) dX11_plansAll_23 rfl rfl ?_
    refine a_iload (k := 3) dX11_plansAll_24 rfl ?_
    refine k_X11_172 rfl dX11_plansAll_26 (Nat.le_of_ble_eq_true rfl) rfl (Nat.le_of_ble_eq_true rfl) (Nat.le_of_ble_eq_true rfl) h (fun x5 n6 μ7 h => ?_)
    refine a_if_eq (tgt := 59) dX11_plansAll_29 (by decide) (fun c8 => ?_) (fun c8 => ?_)
    · replace h := h.1 c8
      refine a_iload_n (k := 2) dX11_plansAll_59 rfl rfl ?_
      refine b_istore_n (L' := [(0, .inr 399), (2, .inl v2), (3, .inl v3), (4, .inl v4)]) [1, 2, 0, 3] dX11_plansAll_60 rfl (Nat.le_of_ble_eq_true rfl) rfl ?_
      obtain ⟨q9, h⟩ := h
      refine b_iinc (L' := [(0, .inr 399), (2, .inl v2), (3, .inl v3), (4, .inl (v4 + 1))]) (k := 3) [1, 2, 3, 0] dX11_plansAll_61 rfl q9 (Nat.le_of_ble_eq_true rfl) rfl ?_
      refine a_goto (tgt := 12) dX11_plansAll_64 (by decide) ?_
      exact h
    · replace h := h.2 c8
      refine a_iload_n (k := 2) dX11_plansAll_32 rfl rfl ?_
      refine a_bipush dX11_plansAll_33 (by decide) (by decide) ?_
      refine a_icmp_eq (tgt := 54) dX11_plansAll_35 (by decide) (fun c10 => ?_) (fun c10 => ?_)
      · replace h := h.1 c10
        refine a_sub [0, 1, 3] rfl ?_
        exact h
      · replace h := h.2 c10
        refine a_aload_n (k := 0) dX11_plansAll_38 rfl rfl ?_
        refine a_iload (k := 3) dX11_plansAll_39 rfl ?_
        refine a_iconst dX11_plansAll_41 (by decide) ?_
        refine k_X11_127 rfl dX11_plansAll_42 (Nat.le_of_ble_eq_true rfl) rfl (Nat.le_of_ble_eq_true rfl) (Nat.le_of_ble_eq_true rfl) (St_ho hg St_399) h (fun x11 n12 μ13 h => ?_)
        refine a_aload_n (k := 0) dX11_plansAll_45 rfl rfl ?_
        refine a_iload_n (k := 2) dX11_plansAll_46 rfl rfl ?_
        refine a_iconst dX11_plansAll_47 (by decide) ?_
        refine k_X11_127 rfl dX11_plansAll_48 (Nat.le_of_ble_eq_true rfl) rfl (Nat.le_of_ble_eq_true rfl) (Nat.le_of_ble_eq_true rfl) (St_ho hg St_399) h (fun x14 n15 μ16 h => ?_)
        refine a_icmp_le (tgt := 59) dX11_plansAll_51 (by decide) (fun c17 => ?_) (fun c17 => ?_)
        · replace h := h.1 c17
          refine a_iload_n (k := 2) dX11_plansAll_59 rfl rfl ?_
          refine b_istore_n (L' := [(0, .inr 399), (2, .inl v2), (3, .inl v3), (4, .inl v4)]) [1, 2, 0, 3] dX11_plansAll_60 rfl (Nat.le_of_ble_eq_true rfl) rfl ?_
          obtain ⟨q18, h⟩ := h
          refine b_iinc (L' := [(0, .inr 399), (2, .inl v2), (3, .inl v3), (4, .inl (v4 + 1))]) (k := 3) [1, 2, 3, 0] dX11_plansAll_61 rfl q18 (Nat.le_of_ble_eq_true rfl) rfl ?_
          refine a_goto (tgt := 12) dX11_plansAll_64 (by decide) ?_
          exact h
        · replace h := h.2 c17
          refine a_sub [0, 1, 3] rfl ?_
          exact h
theorem b_X11_plansAll_54 {G : GT} (hg : gx G = FX) {n : Nat} {μ : Mem} {Q : Nat → Mem → Prop} {v2 v4 : Int}  (h : ((inR (v4 + 1)) ∧ (B_X11_plansAll_12 G Q n μ v2 v4 (v4 + 1)))) : B_X11_plansAll_54 G Q n μ v2 v4 := by
  show Wa G Y_X11_plansAll (ZV G Y_X11_plansAll Q) 0 0 n μ 54 [(0, .inr 399), (2, .inl v2), (4, .inl v4)] []
  refine a_iload (k := 2) dX11_plansAll_54 rfl ?_
  refine a_goto (tgt := 60) dX11_plansAll_56 (by decide) ?_
  refine b_istore_n (L' := [(0, .inr 399), (2, .inl v2), (3, .inl v4), (4, .inl v4)]) [1, 2, 0, 3] dX11_plansAll_60 rfl (Nat.le_of_ble_eq_true rfl) rfl ?_
  obtain ⟨q1, h⟩ := h
  refine b_iinc (L' := [(0, .inr 399), (2, .inl v2), (3, .inl v4), (4, .inl (v4 + 1))]) (k := 3) [1, 2, 3, 0] dX11_plansAll_61 rfl q1 (Nat.le_of_ble_eq_true rfl) rfl ?_
  refine a_goto (tgt := 12) dX11_plansAll_64 (by decide) ?_
  exact h
abbrev B_X11_copies_3 (G : GT) (Q : Nat → Mem → Prop) (n : Nat) (μ : Mem) (v1 : Int) (v2 : Int) (v3 : Int) (v4 : Int) (v5 : Int) : Prop := Wa G Y_X11_copies (ZV G Y_X11_copies Q) 0 0 n μ 3 [(1, .inr v1), (2, .inr v2), (3, .inl v3), (4, .inl v4), (5, .inl v5)] []
theorem m_X11_copies {G : GT} (hg : gx G = FX) {n : Nat} {μ : Mem} {Q : Nat → Mem → Prop} {v1 v2 v3 v4 : Int} {Nv1 Nv2 : Nat} (o1 : St v1 20 Nv1) (o2 : St v2 20 Nv2) (h : (B_X11_copies_3 G Q n μ v1 v2 v3 v4 0)) : CV G Y_X11_copies [.inr 399, .inr v1, .inr v2, .inl v3, .inl v4] n μ Q := by
  refine e_V (by decide) (Nat.le_of_ble_eq_true rfl) ?_
  show Wa G Y_X11_copies (ZV G Y_X11_copies Q) 0 0 n μ 0 [(0, .inr 399), (1, .inr v1), (2, .inr v2), (3, .inl v3), (4, .inl v4)] []
  refine a_iconst dX11_copies_0 (by decide) ?_
  refine b_istore (L' := [(0, .inr 399), (1, .inr v1), (2, .inr v2), (3, .inl v3), (4, .inl v4), (5, .inl 0)]) [1, 2, 3, 4, 5, 0] dX11_copies_1 (Nat.le_of_ble_eq_true rfl) rfl ?_
  refine a_sub [1, 2, 3, 4, 5] rfl ?_
  exact h
theorem b_X11_copies_3 {G : GT} (hg : gx G = FX) {n : Nat} {μ : Mem} {Q : Nat → Mem → Prop} {v1 v2 v3 v4 v5 : Int} {Nv1 Nv2 : Nat} (o1 : St v1 20 Nv1) (o2 : St v2 20 Nv2) (h : ((163 ≤ v5 → (Q n μ)) ∧ (¬ (163 ≤ v5) → ((inR (v4 + v5)) ∧ ((inR (v3 + v5)) ∧ (((0 : Int) ≤ v3 + v5 ∧ v3 + v5 < (Nv1 : Int)) ∧ (((0 : Int) ≤ v4 + v5 ∧ v4 + v5 < (Nv2 : Int)) ∧ ((inR (v5 + 1)) ∧ (B_X11_copies_3 G Q n (up μ v2 (v4 + v5) (μ v1 (v3 + v5))) v1 v2 v3 v4 (v5 + 1)))))))))) : B_X11_copies_3 G Q n μ v1 v2 v3 v4 v5 := by
  show Wa G Y_X11_copies (ZV G Y_X11_copies Q) 0 0 n μ 3 [(1, .inr v1), (2, .inr v2), (3, .inl v3), (4, .inl v4), (5, .inl v5)] []
  refine a_iload (k := 4) dX11_copies_3 rfl ?_
  refine a_sipush dX11_copies_5 (by decide) (by decide) ?_
  refine a_icmp_ge (tgt := 30) dX11_copies_8 (by decide) (fun c1 => ?_) (fun c1 => ?_)
  · replace h := h.1 c1
    exact a_ret dX11_copies_30 rfl (Nat.le_of_ble_eq_true rfl) (Nat.le_of_ble_eq_true rfl) h
  · replace h := h.2 c1
    refine a_aload_n (k := 1) dX11_copies_11 rfl rfl ?_
    refine a_iload (k := 3) dX11_copies_12 rfl ?_
    refine a_iload (k := 4) dX11_copies_14 rfl ?_
    obtain ⟨q2, h⟩ := h
    refine a_iadd dX11_copies_16 q2 ?_
    refine a_aload_n (k := 0) dX11_copies_17 rfl rfl ?_
    refine a_iload_n (k := 2) dX11_copies_18 rfl rfl ?_
    refine a_iload (k := 4) dX11_copies_19 rfl ?_
    obtain ⟨q3, h⟩ := h
    refine a_iadd dX11_copies_21 q3 ?_
    obtain ⟨q4, h⟩ := h
    refine a_iaload dX11_copies_22 (St_ho hg o1) q4.1 q4.2 ?_
    obtain ⟨q5, h⟩ := h
    refine a_iastore dX11_copies_23 (St_ho hg o2) q5.1 q5.2 (FX_put hg o2 rfl) ?_
    obtain ⟨q6, h⟩ := h
    refine b_iinc (L' := [(1, .inr v1), (2, .inr v2), (3, .inl v3), (4, .inl v4), (5, .inl (v5 + 1))]) (k := 4) [1, 2, 3, 4, 0] dX11_copies_24 rfl q6 (Nat.le_of_ble_eq_true rfl) rfl ?_
    refine a_goto (tgt := 3) dX11_copies_27 (by decide) ?_
    exact h
abbrev B_X11_notes_11 (G : GT) (Q : Nat → Mem → Prop) (n : Nat) (μ : Mem) (v1 : Int) : Prop := Wa G Y_X11_notes (ZV G Y_X11_notes Q) 0 0 n μ 11 [(0, .inr 399), (1, .inl v1)] []
abbrev B_X11_notes_50 (G : GT) (Q : Nat → Mem → Prop) (n : Nat) (μ : Mem) : Prop := Wa G Y_X11_notes (ZV G Y_X11_notes Q) 0 0 n μ 50 [(0, .inr 399)] []
theorem m_X11_notes {G : GT} (hg : gx G = FX) {n : Nat} {μ : Mem} {Q : Nat → Mem → Prop}  (h : ((¬ ((μ 399 8) = 8) → (B_X11_notes_50 G Q n μ)) ∧ ((μ 399 8) = 8 → (B_X11_notes_11 G Q n μ 0)))) : CV G Y_X11_notes [.inr 399] n μ Q := by
  refine e_V (by decide) (Nat.le_of_ble_eq_true rfl) ?_
  show Wa G Y_X11_notes (ZV G Y_X11_notes Q) 0 0 n μ 0 [(0, .inr 399)] []
  refine a_aload_n (k := 0) dX11_notes_0 rfl rfl ?_
  refine g_X11_104 rfl dX11_notes_1 (St_ho hg St_399) ?_
  refine a_bipush dX11_notes_4 (by decide) (by decide) ?_
  refine a_icmp_ne (tgt := 50) dX11_notes_6 (by decide) (fun c1 => ?_) (fun c1 => ?_)
  · replace h := h.1 c1
    exact h
  · replace h := h.2 c1
    refine a_iconst dX11_notes_9 (by decide) ?_
    refine b_istore_n (L' := [(0, .inr 399), (1, .inl 0)]) [1, 0] dX11_notes_10 rfl (Nat.le_of_ble_eq_true rfl) rfl ?_
    exact h
theorem b_X11_notes_11 {G : GT} (hg : gx G = FX) {n : Nat} {μ : Mem} {Q : Nat → Mem → Prop} {v1 : Int}  (h : ((1141 ≤ v1 → ((inR ((μ 399 8) - 1)) ∧ (B_X11_notes_50 G Q n (up μ 399 8 ((μ 399 8) - 1))))) ∧ (¬ (1141 ≤ v1) → ((inR (v1 + 163)) ∧ (((0 : Int) ≤ v1 + 163 ∧ v1 + 163 < 1304) ∧ (((0 : Int) ≤ v1 ∧ v1 < 1304) ∧ ((inR (v1 + 1)) ∧ (B_X11_notes_11 G Q n (up μ 403 v1 (μ 403 (v1 + 163))) (v1 + 1))))))))) : B_X11_notes_11 G Q n μ v1 := by
  show Wa G Y_X11_notes (ZV G Y_X11_notes Q) 0 0 n μ 11 [(0, .inr 399), (1, .inl v1)] []
  refine a_iload_n (k := 1) dX11_notes_11 rfl rfl ?_
  refine a_sipush dX11_notes_12 (by decide) (by decide) ?_
  refine a_icmp_ge (tgt := 40) dX11_notes_15 (by decide) (fun c1 => ?_) (fun c1 => ?_)
  · replace h := h.1 c1
    refine a_aload_n (k := 0) dX11_notes_40 rfl rfl ?_
    refine a_dup dX11_notes_41 ?_
    refine g_X11_104 rfl dX11_notes_42 (St_ho hg St_399) ?_
    refine a_iconst dX11_notes_45 (by decide) ?_
    obtain ⟨q2, h⟩ := h
    refine a_isub dX11_notes_46 q2 ?_
    refine p_X11_104 rfl dX11_notes_47 (St_ho hg St_399) (FX_put hg St_399 rfl) ?_
    refine a_sub [0] rfl ?_
    exact h
  · replace h := h.2 c1
    refine a_aload_n (k := 0) dX11_notes_18 rfl rfl ?_
    refine gs_X11_19 rfl dX11_notes_19 hg St_399 ?_
    refine a_iload_n (k := 1) dX11_notes_22 rfl rfl ?_
    refine a_aload_n (k := 0) dX11_notes_23 rfl rfl ?_
    refine gs_X11_19 rfl dX11_notes_24 hg St_399 ?_
    refine a_iload_n (k := 1) dX11_notes_27 rfl rfl ?_
    refine a_sipush dX11_notes_28 (by decide) (by decide) ?_
    obtain ⟨q3, h⟩ := h
    refine a_iadd dX11_notes_31 q3 ?_
    obtain ⟨q4, h⟩ := h
    refine a_iaload dX11_notes_32 (St_ho hg St_403) q4.1 q4.2 ?_
    obtain ⟨q5, h⟩ := h
    refine a_iastore dX11_notes_33 (St_ho hg St_403) q5.1 q5.2 (FX_put hg St_403 rfl) ?_
    obtain ⟨q6, h⟩ := h
    refine b_iinc (L' := [(0, .inr 399), (1, .inl (v1 + 1))]) (k := 1) [1, 0] dX11_notes_34 rfl q6 (Nat.le_of_ble_eq_true rfl) rfl ?_
    refine a_goto (tgt := 11) dX11_notes_37 (by decide) ?_
    exact h
theorem b_X11_notes_50 {G : GT} (hg : gx G = FX) {n : Nat} {μ : Mem} {Q : Nat → Mem → Prop}  (h : ((inR (163 * (μ 399 8))) ∧ (CV G Y_X11_copies [.inr 399, .inr 402, .inr 403, .inl 0, .inl (163 * (μ 399 8))] n μ (fun (n3 : Nat) (μ4 : Mem) => ((inR ((μ4 399 8) + 1)) ∧ (Q n3 (up μ4 399 8 ((μ4 399 8) + 1)))))))) : B_X11_notes_50 G Q n μ := by
  show Wa G Y_X11_notes (ZV G Y_X11_notes Q) 0 0 n μ 50 [(0, .inr 399)] []
  refine a_aload_n (k := 0) dX11_notes_50 rfl rfl ?_
  refine a_aload_n (k := 0) dX11_notes_51 rfl rfl ?_
  refine gs_X11_16 rfl dX11_notes_52 hg St_399 ?_
  refine a_aload_n (k := 0) dX11_notes_55 rfl rfl ?_
  refine gs_X11_19 rfl dX11_notes_56 hg St_399 ?_
  refine a_iconst dX11_notes_59 (by decide) ?_
  refine a_sipush dX11_notes_60 (by decide) (by decide) ?_
  refine a_aload_n (k := 0) dX11_notes_63 rfl rfl ?_
  refine g_X11_104 rfl dX11_notes_64 (St_ho hg St_399) ?_
  obtain ⟨q1, h⟩ := h
  refine a_imul dX11_notes_67 q1 ?_
  refine k_X11_201 rfl dX11_notes_68 (Nat.le_of_ble_eq_true rfl) rfl (Nat.le_of_ble_eq_true rfl) (Nat.le_of_ble_eq_true rfl) (St_ho hg St_399) h (fun n3 μ4 h => ?_)
  refine a_aload_n (k := 0) dX11_notes_71 rfl rfl ?_
  refine a_dup dX11_notes_72 ?_
  refine g_X11_104 rfl dX11_notes_73 (St_ho hg St_399) ?_
  refine a_iconst dX11_notes_76 (by decide) ?_
  obtain ⟨q5, h⟩ := h
  refine a_iadd dX11_notes_77 q5 ?_
  refine p_X11_104 rfl dX11_notes_78 (St_ho hg St_399) (FX_put hg St_399 rfl) ?_
  exact a_ret dX11_notes_81 rfl (Nat.le_of_ble_eq_true rfl) (Nat.le_of_ble_eq_true rfl) h
theorem m_X11_sends {G : GT} (hg : gx G = FX) {n : Nat} {μ : Mem} {Q : Int → Nat → Mem → Prop} {v1 v2 v3 v4 v5 : Int}  (h : (CI G Y_X11_isNode [.inr 399, .inl v1] n (up μ 399 0 0) (fun (x1 : Int) (n2 : Nat) (μ3 : Mem) => ((x1 = 0 → (Q (-1) n2 μ3)) ∧ (¬ (x1 = 0) → (CI G Y_X11_isNode [.inr 399, .inl v2] n2 μ3 (fun (x5 : Int) (n6 : Nat) (μ7 : Mem) => ((x5 = 0 → (Q (-1) n6 μ7)) ∧ (¬ (x5 = 0) → (CI G Y_X11_in [.inl v3, .inl 1, .inl 20] n6 μ7 (fun (x9 : Int) (n10 : Nat) (μ11 : Mem) => ((x9 = 0 → (Q (-1) n10 μ11)) ∧ (¬ (x9 = 0) → (CI G Y_X11_in [.inl v4, .inl 0, .inl 99] n10 μ11 (fun (x13 : Int) (n14 : Nat) (μ15 : Mem) => ((x13 = 0 → (Q (-1) n14 μ15)) ∧ (¬ (x13 = 0) → (CI G Y_X11_in [.inl v5, .inl 0, .inl 2] n14 μ15 (fun (x17 : Int) (n18 : Nat) (μ19 : Mem) => ((¬ (x17 = 0) → ((¬ ((μ19 402 2) = 8) → (CV G Y_X11_notes [.inr 399] n18 μ19 (fun (n23 : Nat) (μ24 : Mem) => ((inR ((μ24 402 2) + 1)) ∧ (CI G Y_X11_at [.inl (μ24 402 2)] n23 (up μ24 402 2 ((μ24 402 2) + 1)) (fun (x26 : Int) (n27 : Nat) (μ28 : Mem) => ((inR (x26 + 0)) ∧ (((0 : Int) ≤ x26 + 0 ∧ x26 + 0 < 163) ∧ (CI G Y_X11_at [.inl (μ24 402 2)] n27 (up μ28 402 (x26 + 0) v3) (fun (x31 : Int) (n32 : Nat) (μ33 : Mem) => ((inR (x31 + 1)) ∧ (((0 : Int) ≤ x31 + 1 ∧ x31 + 1 < 163) ∧ (CI G Y_X11_at [.inl (μ24 402 2)] n32 (up μ33 402 (x31 + 1) v2) (fun (x36 : Int) (n37 : Nat) (μ38 : Mem) => ((inR (x36 + 2)) ∧ (((0 : Int) ≤ x36 + 2 ∧ x36 + 2 < 163) ∧ (CI G Y_X11_at [.inl (μ24 402 2)] n37 (up μ38 402 (x36 + 2) v4) (fun (x41 : Int) (n42 : Nat) (μ43 : Mem) => ((inR (x41 + 3)) ∧ (((0 : Int) ≤ x41 + 3 ∧ x41 + 3 < 163) ∧ (CI G Y_X11_at [.inl (μ24 402 2)] n42 (up μ43 402 (x41 + 3) v5) (fun (x46 : Int) (n47 : Nat) (μ48 : Mem) => ((inR (x46 + 4)) ∧ (((0 : Int) ≤ x46 + 4 ∧ x46 + 4 < 163) ∧ (CI G Y_X11_at [.inl (μ24 402 2)] n47 (up μ48 402 (x46 + 4) v1) (fun (x51 : Int) (n52 : Nat) (μ53 : Mem) => ((inR (x51 + 5)) ∧ (((0 : Int) ≤ x51 + 5 ∧ x51 + 5 < 163) ∧ (CI G Y_X11_at [.inl (μ24 402 2)] n52 (up μ53 402 (x51 + 5) 0) (fun (x56 : Int) (n57 : Nat) (μ58 : Mem) => ((inR (x56 + 6)) ∧ (((0 : Int) ≤ x56 + 6 ∧ x56 + 6 < 163) ∧ (CI G Y_X11_at [.inl (μ24 402 2)] n57 (up μ58 402 (x56 + 6) 0) (fun (x61 : Int) (n62 : Nat) (μ63 : Mem) => ((inR (x61 + 7)) ∧ (((0 : Int) ≤ x61 + 7 ∧ x61 + 7 < 163) ∧ (CI G Y_X11_at [.inl (μ24 402 2)] n62 (up μ63 402 (x61 + 7) (-9)) (fun (x66 : Int) (n67 : Nat) (μ68 : Mem) => ((inR (x66 + 9)) ∧ (((0 : Int) ≤ x66 + 9 ∧ x66 + 9 < 163) ∧ (CV G Y_X11_plansAll [.inr 399, .inl (iShl 1 (μ24 402 2))] n67 (up μ68 402 (x66 + 9) 0) (fun (n72 : Nat) (μ73 : Mem) => (CI G Y_X11_stateOf [.inr 399, .inl (μ24 402 2)] n72 μ73 (fun (x74 : Int) (n75 : Nat) (μ76 : Mem) => ((¬ (x74 = 2) → (CI G Y_X11_lastEnd [.inr 399, .inl (μ24 402 2)] n75 μ76 (fun (x78 : Int) (n79 : Nat) (μ80 : Mem) => (Q x78 n79 μ80)))) ∧ (x74 = 2 → (Q (μ76 402 0) n75 μ76))))))))))))))))))))))))))))))))))))))))))))))) ∧ ((μ19 402 2) = 8 → (Q (-3) n18 μ19)))) ∧ (x17 = 0 → (Q (-1) n18 μ19)))))))))))))))))))))) : CI G Y_X11_sends [.inr 399, .inl v1, .inl v2, .inl v3, .inl v4, .inl v5] n μ Q := by
  refine e_I (by decide) (Nat.le_of_ble_eq_true rfl) ?_
  show Wa G Y_X11_sends (ZI G Y_X11_sends Q) 0 0 n μ 0 [(0, .inr 399), (1, .inl v1), (2, .inl v2), (3, .inl v3), (4, .inl v4), (5, .inl v5)] []
  refine a_aload_n (k := 0) dX11_sends_0 rfl rfl ?_
  refine a_iconst dX11_sends_1 (by decide) ?_
  refine p_X11_62 rfl dX11_sends_2 (St_ho hg St_399) (FX_put hg St_399 rfl) ?_
  refine a_aload_n (k := 0) dX11_sends_5 rfl rfl ?_
  refine a_iload_n (k := 1) dX11_sends_6 rfl rfl ?_
  refine k_X11_205 rfl dX11_sends_7 (Nat.le_of_ble_eq_true rfl) rfl (Nat.le_of_ble_eq_true rfl) (Nat.le_of_ble_eq_true rfl) (St_ho hg St_399) h (fun x1 n2 μ3 h => ?_)
  refine a_if_eq (tgt := 52) dX11_sends_10 (by decide) (fun c4 => ?_) (fun c4 => ?_)
  · replace h := h.1 c4
    refine a_iconst dX11_sends_52 (by decide) ?_
    exact a_iret dX11_sends_53 rfl (Nat.le_of_ble_eq_true rfl) (Nat.le_of_ble_eq_true rfl) h
  · replace h := h.2 c4
    refine a_aload_n (k := 0) dX11_sends_13 rfl rfl ?_
    refine a_iload_n (k := 2) dX11_sends_14 rfl rfl ?_
    refine k_X11_205 rfl dX11_sends_15 (Nat.le_of_ble_eq_true rfl) rfl (Nat.le_of_ble_eq_true rfl) (Nat.le_of_ble_eq_true rfl) (St_ho hg St_399) h (fun x5 n6 μ7 h => ?_)
    refine a_if_eq (tgt := 52) dX11_sends_18 (by decide) (fun c8 => ?_) (fun c8 => ?_)
    · replace h := h.1 c8
      refine a_iconst dX11_sends_52 (by decide) ?_
      exact a_iret dX11_sends_53 rfl (Nat.le_of_ble_eq_true rfl) (Nat.le_of_ble_eq_true rfl) h
    · replace h := h.2 c8
      refine a_iload_n (k := 3) dX11_sends_21 rfl rfl ?_
      refine a_iconst dX11_sends_22 (by decide) ?_
      refine a_bipush dX11_sends_23 (by decide) (by decide) ?_
      refine k_X11_69 rfl dX11_sends_25 (Nat.le_of_ble_eq_true rfl) rfl (Nat.le_of_ble_eq_true rfl) (Nat.le_of_ble_eq_true rfl) h (fun x9 n10 μ11 h => ?_)
      refine a_if_eq (tgt := 52) dX11_sends_28 (by decide) (fun c12 => ?_) (fun c12 => ?_)
      · replace h := h.1 c12
        refine a_iconst dX11_sends_52 (by decide) ?_
        exact a_iret dX11_sends_53 rfl (Nat.le_of_ble_eq_true rfl) (Nat.le_of_ble_eq_true rfl) h
      · replace h := h.2 c12
        refine a_iload (k := 4) dX11_sends_31 rfl ?_
        refine a_iconst dX11_sends_33 (by decide) ?_
        refine a_bipush dX11_sends_34 (by decide) (by decide) ?_
        refine k_X11_69 rfl dX11_sends_36 (Nat.le_of_ble_eq_true rfl) rfl (Nat.le_of_ble_eq_true rfl) (Nat.le_of_ble_eq_true rfl) h (fun x13 n14 μ15 h => ?_)
        refine a_if_eq (tgt := 52) dX11_sends_39 (by decide) (fun c16 => ?_) (fun c16 => ?_)
        · replace h := h.1 c16
          refine a_iconst dX11_sends_52 (by decide) ?_
          exact a_iret dX11_sends_53 rfl (Nat.le_of_ble_eq_true rfl) (Nat.le_of_ble_eq_true rfl) h
        · replace h := h.2 c16
          refine a_iload (k := 5) dX11_sends_42 rfl ?_
          refine a_iconst dX11_sends_44 (by decide) ?_
          refine a_iconst dX11_sends_45 (by decide) ?_
          refine k_X11_69 rfl dX11_sends_46 (Nat.le_of_ble_eq_true rfl) rfl (Nat.le_of_ble_eq_true rfl) (Nat.le_of_ble_eq_true rfl) h (fun x17 n18 μ19 h => ?_)
          refine a_if_ne (tgt := 54) dX11_sends_49 (by decide) (fun c20 => ?_) (fun c20 => ?_)
          · replace h := h.1 c20
            refine a_aload_n (k := 0) dX11_sends_54 rfl rfl ?_
            refine gs_X11_16 rfl dX11_sends_55 hg St_399 ?_
            refine a_iconst dX11_sends_58 (by decide) ?_
            refine a_iaload dX11_sends_59 (St_ho hg St_402) (by decide) (by decide) ?_
            refine a_bipush dX11_sends_60 (by decide) (by decide) ?_
            refine a_icmp_ne (tgt := 68) dX11_sends_62 (by decide) (fun c21 => ?_) (fun c21 => ?_)
            · replace h := h.1 c21
              refine a_aload_n (k := 0) dX11_sends_68 rfl rfl ?_
              refine k_X11_208 rfl dX11_sends_69 (Nat.le_of_ble_eq_true rfl) rfl (Nat.le_of_ble_eq_true rfl) (Nat.le_of_ble_eq_true rfl) (St_ho hg St_399) h (fun n23 μ24 h => ?_)
              refine a_aload_n (k := 0) dX11_sends_72 rfl rfl ?_
              refine gs_X11_16 rfl dX11_sends_73 hg St_399 ?_
              refine a_iconst dX11_sends_76 (by decide) ?_
              refine a_iaload dX11_sends_77 (St_ho hg St_402) (by decide) (by decide) ?_
              refine b_istore (L' := [(0, .inr 399), (1, .inl v1), (2, .inl v2), (3, .inl v3), (4, .inl v4), (5, .inl v5), (6, .inl (μ24 402 2))]) [1, 2, 3, 4, 5, 6, 0] dX11_sends_78 (Nat.le_of_ble_eq_true rfl) rfl ?_
              refine a_aload_n (k := 0) dX11_sends_80 rfl rfl ?_
              refine gs_X11_16 rfl dX11_sends_81 hg St_399 ?_
              refine a_iconst dX11_sends_84 (by decide) ?_
              refine a_dup2 dX11_sends_85 ?_
              refine a_iaload dX11_sends_86 (St_ho hg St_402) (by decide) (by decide) ?_
              refine a_iconst dX11_sends_87 (by decide) ?_
              obtain ⟨q25, h⟩ := h
              refine a_iadd dX11_sends_88 q25 ?_
              refine a_iastore dX11_sends_89 (St_ho hg St_402) (by decide) (by decide) (FX_put hg St_402 rfl) ?_
              refine a_aload_n (k := 0) dX11_sends_90 rfl rfl ?_
              refine gs_X11_16 rfl dX11_sends_91 hg St_399 ?_
              refine a_iload (k := 6) dX11_sends_94 rfl ?_
              refine k_X11_123 rfl dX11_sends_96 (Nat.le_of_ble_eq_true rfl) rfl (Nat.le_of_ble_eq_true rfl) (Nat.le_of_ble_eq_true rfl) h (fun x26 n27 μ28 h => ?_)
              refine a_iconst dX11_sends_99 (by decide) ?_
              obtain ⟨q29, h⟩ := h
              refine a_iadd dX11_sends_100 q29 ?_
              refine a_iload_n (k := 3) dX11_sends_101 rfl rfl ?_
              obtain ⟨q30, h⟩ := h
              refine a_iastore dX11_sends_102 (St_ho hg St_402) q30.1 q30.2 (FX_put hg St_402 rfl) ?_
              refine a_aload_n (k := 0) dX11_sends_103 rfl rfl ?_
              refine gs_X11_16 rfl dX11_sends_104 hg St_399 ?_
              refine a_iload (k := 6) dX11_sends_107 rfl ?_
              refine k_X11_123 rfl dX11_sends_109 (Nat.le_of_ble_eq_true rfl) rfl (Nat.le_of_ble_eq_true rfl) (Nat.le_of_ble_eq_true rfl) h (fun x31 n32 μ33 h => ?_)
              refine a_iconst dX11_sends_112 (by decide) ?_
              obtain ⟨q34, h⟩ := h
              refine a_iadd dX11_sends_113 q34 ?_
              refine a_iload_n (k := 2) dX11_sends_114 rfl rfl ?_
              obtain ⟨q35, h⟩ := h
              refine a_iastore dX11_sends_115 (St_ho hg St_402) q35.1 q35.2 (FX_put hg St_402 rfl) ?_
              refine a_aload_n (k := 0) dX11_sends_116 rfl rfl ?_
              refine gs_X11_16 rfl dX11_sends_117 hg St_399 ?_
              refine a_iload (k := 6) dX11_sends_120 rfl ?_
              refine k_X11_123 rfl dX11_sends_122 (Nat.le_of_ble_eq_true rfl) rfl (Nat.le_of_ble_eq_true rfl) (Nat.le_of_ble_eq_true rfl) h (fun x36 n37 μ38 h => ?_)
              refine a_iconst dX11_sends_125 (by decide) ?_
              obtain ⟨q39, h⟩ := h
              refine a_iadd dX11_sends_126 q39 ?_
              refine a_iload (k := 4) dX11_sends_127 rfl ?_
              obtain ⟨q40, h⟩ := h
              refine a_iastore dX11_sends_129 (St_ho hg St_402) q40.1 q40.2 (FX_put hg St_402 rfl) ?_
              refine a_aload_n (k := 0) dX11_sends_130 rfl rfl ?_
              refine gs_X11_16 rfl dX11_sends_131 hg St_399 ?_
              refine a_iload (k := 6) dX11_sends_134 rfl ?_
              refine k_X11_123 rfl dX11_sends_136 (Nat.le_of_ble_eq_true rfl) rfl (Nat.le_of_ble_eq_true rfl) (Nat.le_of_ble_eq_true rfl) h (fun x41 n42 μ43 h => ?_)
              refine a_iconst dX11_sends_139 (by decide) ?_
              obtain ⟨q44, h⟩ := h
              refine a_iadd dX11_sends_140 q44 ?_
              refine a_iload (k := 5) dX11_sends_141 rfl ?_
              obtain ⟨q45, h⟩ := h
              refine a_iastore dX11_sends_143 (St_ho hg St_402) q45.1 q45.2 (FX_put hg St_402 rfl) ?_
              refine a_aload_n (k := 0) dX11_sends_144 rfl rfl ?_
              refine gs_X11_16 rfl dX11_sends_145 hg St_399 ?_
              refine a_iload (k := 6) dX11_sends_148 rfl ?_
              refine k_X11_123 rfl dX11_sends_150 (Nat.le_of_ble_eq_true rfl) rfl (Nat.le_of_ble_eq_true rfl) (Nat.le_of_ble_eq_true rfl) h (fun x46 n47 μ48 h => ?_)
              refine a_iconst dX11_sends_153 (by decide) ?_
              obtain ⟨q49, h⟩ := h
              refine a_iadd dX11_sends_154 q49 ?_
              refine a_iload_n (k := 1) dX11_sends_155 rfl rfl ?_
              obtain ⟨q50, h⟩ := h
              refine a_iastore dX11_sends_156 (St_ho hg St_402) q50.1 q50.2 (FX_put hg St_402 rfl) ?_
              refine a_aload_n (k := 0) dX11_sends_157 rfl rfl ?_
              refine gs_X11_16 rfl dX11_sends_158 hg St_399 ?_
              refine a_iload (k := 6) dX11_sends_161 rfl ?_
              refine k_X11_123 rfl dX11_sends_163 (Nat.le_of_ble_eq_true rfl) rfl (Nat.le_of_ble_eq_true rfl) (Nat.le_of_ble_eq_true rfl) h (fun x51 n52 μ53 h => ?_)
              refine a_iconst dX11_sends_166 (by decide) ?_
              obtain ⟨q54, h⟩ := h
              refine a_iadd dX11_sends_167 q54 ?_
              refine a_iconst dX11_sends_168 (by decide) ?_
              obtain ⟨q55, h⟩ := h
              refine a_iastore dX11_sends_169 (St_ho hg St_402) q55.1 q55.2 (FX_put hg St_402 rfl) ?_
              refine a_aload_n (k := 0) dX11_sends_170 rfl rfl ?_
              refine gs_X11_16 rfl dX11_sends_171 hg St_399 ?_
              refine a_iload (k := 6) dX11_sends_174 rfl ?_
              refine k_X11_123 rfl dX11_sends_176 (Nat.le_of_ble_eq_true rfl) rfl (Nat.le_of_ble_eq_true rfl) (Nat.le_of_ble_eq_true rfl) h (fun x56 n57 μ58 h => ?_)
              refine a_bipush dX11_sends_179 (by decide) (by decide) ?_
              obtain ⟨q59, h⟩ := h
              refine a_iadd dX11_sends_181 q59 ?_
              refine a_iconst dX11_sends_182 (by decide) ?_
              obtain ⟨q60, h⟩ := h
              refine a_iastore dX11_sends_183 (St_ho hg St_402) q60.1 q60.2 (FX_put hg St_402 rfl) ?_
              refine a_aload_n (k := 0) dX11_sends_184 rfl rfl ?_
              refine gs_X11_16 rfl dX11_sends_185 hg St_399 ?_
              refine a_iload (k := 6) dX11_sends_188 rfl ?_
              refine k_X11_123 rfl dX11_sends_190 (Nat.le_of_ble_eq_true rfl) rfl (Nat.le_of_ble_eq_true rfl) (Nat.le_of_ble_eq_true rfl) h (fun x61 n62 μ63 h => ?_)
              refine a_bipush dX11_sends_193 (by decide) (by decide) ?_
              obtain ⟨q64, h⟩ := h
              refine a_iadd dX11_sends_195 q64 ?_
              refine a_bipush dX11_sends_196 (by decide) (by decide) ?_
              obtain ⟨q65, h⟩ := h
              refine a_iastore dX11_sends_198 (St_ho hg St_402) q65.1 q65.2 (FX_put hg St_402 rfl) ?_
              refine a_aload_n (k := 0) dX11_sends_199 rfl rfl ?_
              refine gs_X11_16 rfl dX11_sends_200 hg St_399 ?_
              refine a_iload (k := 6) dX11_sends_203 rfl ?_
              refine k_X11_123 rfl dX11_sends_205 (Nat.le_of_ble_eq_true rfl) rfl (Nat.le_of_ble_eq_true rfl) (Nat.le_of_ble_eq_true rfl) h (fun x66 n67 μ68 h => ?_)
              refine a_bipush dX11_sends_208 (by decide) (by decide) ?_
              obtain ⟨q69, h⟩ := h
              refine a_iadd dX11_sends_210 q69 ?_
              refine a_iconst dX11_sends_211 (by decide) ?_
              obtain ⟨q70, h⟩ := h
              refine a_iastore dX11_sends_212 (St_ho hg St_402) q70.1 q70.2 (FX_put hg St_402 rfl) ?_
              refine a_aload_n (k := 0) dX11_sends_213 rfl rfl ?_
              refine a_iconst dX11_sends_214 (by decide) ?_
              refine a_iload (k := 6) dX11_sends_215 rfl ?_
              refine a_ishl dX11_sends_217 ?_
              refine k_X11_211 rfl dX11_sends_218 (Nat.le_of_ble_eq_true rfl) rfl (Nat.le_of_ble_eq_true rfl) (Nat.le_of_ble_eq_true rfl) (St_ho hg St_399) h (fun n72 μ73 h => ?_)
              refine a_aload_n (k := 0) dX11_sends_221 rfl rfl ?_
              refine a_iload (k := 6) dX11_sends_222 rfl ?_
              refine k_X11_140 rfl dX11_sends_224 (Nat.le_of_ble_eq_true rfl) rfl (Nat.le_of_ble_eq_true rfl) (Nat.le_of_ble_eq_true rfl) (St_ho hg St_399) h (fun x74 n75 μ76 h => ?_)
              refine a_iconst dX11_sends_227 (by decide) ?_
              refine a_icmp_ne (tgt := 240) dX11_sends_228 (by decide) (fun c77 => ?_) (fun c77 => ?_)
              · replace h := h.1 c77
                refine a_aload_n (k := 0) dX11_sends_240 rfl rfl ?_
                refine a_iload (k := 6) dX11_sends_241 rfl ?_
                refine k_X11_214 rfl dX11_sends_243 (Nat.le_of_ble_eq_true rfl) rfl (Nat.le_of_ble_eq_true rfl) (Nat.le_of_ble_eq_true rfl) (St_ho hg St_399) h (fun x78 n79 μ80 h => ?_)
                exact a_iret dX11_sends_246 rfl (Nat.le_of_ble_eq_true rfl) (Nat.le_of_ble_eq_true rfl) h
              · replace h := h.2 c77
                refine a_aload_n (k := 0) dX11_sends_231 rfl rfl ?_
                refine gs_X11_16 rfl dX11_sends_232 hg St_399 ?_
                refine a_iconst dX11_sends_235 (by decide) ?_
                refine a_iaload dX11_sends_236 (St_ho hg St_402) (by decide) (by decide) ?_
                refine a_goto (tgt := 246) dX11_sends_237 (by decide) ?_
                exact a_iret dX11_sends_246 rfl (Nat.le_of_ble_eq_true rfl) (Nat.le_of_ble_eq_true rfl) h
            · replace h := h.2 c21
              refine a_bipush dX11_sends_65 (by decide) (by decide) ?_
              exact a_iret dX11_sends_67 rfl (Nat.le_of_ble_eq_true rfl) (Nat.le_of_ble_eq_true rfl) h
          · replace h := h.2 c20
            refine a_iconst dX11_sends_52 (by decide) ?_
            exact a_iret dX11_sends_53 rfl (Nat.le_of_ble_eq_true rfl) (Nat.le_of_ble_eq_true rfl) h
theorem m_X11_lastEnd {G : GT} (hg : gx G = FX) {n : Nat} {μ : Mem} {Q : Int → Nat → Mem → Prop} {v1 : Int}  (h : (CI G Y_X11_its [.inr 399, .inl v1, .inl 9] n μ (fun (x1 : Int) (n2 : Nat) (μ3 : Mem) => ((x1 ≤ 0 → (CI G Y_X11_isOn [.inr 399, .inl v1] n2 μ3 (fun (x5 : Int) (n6 : Nat) (μ7 : Mem) => ((x5 = 0 → (Q (-9) n6 μ7)) ∧ (¬ (x5 = 0) → (CI G Y_X11_its [.inr 399, .inl v1, .inl 7] n6 μ7 (fun (x9 : Int) (n10 : Nat) (μ11 : Mem) => (CI G Y_X11_its [.inr 399, .inl v1, .inl 8] n10 μ11 (fun (x12 : Int) (n13 : Nat) (μ14 : Mem) => (CI G Y_X11_arrival [.inr 399, .inl v1, .inl x9, .inl x12] n13 μ14 (fun (x15 : Int) (n16 : Nat) (μ17 : Mem) => (Q x15 n16 μ17)))))))))))) ∧ (¬ (x1 ≤ 0) → (CI G Y_X11_its [.inr 399, .inl v1, .inl 9] n2 μ3 (fun (x18 : Int) (n19 : Nat) (μ20 : Mem) => ((inR (2 * x18)) ∧ ((inR (10 + (2 * x18))) ∧ ((inR ((10 + (2 * x18)) - 2)) ∧ (CI G Y_X11_its [.inr 399, .inl v1, .inl ((10 + (2 * x18)) - 2)] n19 μ20 (fun (x24 : Int) (n25 : Nat) (μ26 : Mem) => ((inR (((10 + (2 * x18)) - 2) + 1)) ∧ (CI G Y_X11_its [.inr 399, .inl v1, .inl (((10 + (2 * x18)) - 2) + 1)] n25 μ26 (fun (x28 : Int) (n29 : Nat) (μ30 : Mem) => (CI G Y_X11_arrival [.inr 399, .inl v1, .inl x24, .inl x28] n29 μ30 (fun (x31 : Int) (n32 : Nat) (μ33 : Mem) => (Q x31 n32 μ33)))))))))))))))))) : CI G Y_X11_lastEnd [.inr 399, .inl v1] n μ Q := by
  refine e_I (by decide) (Nat.le_of_ble_eq_true rfl) ?_
  show Wa G Y_X11_lastEnd (ZI G Y_X11_lastEnd Q) 0 0 n μ 0 [(0, .inr 399), (1, .inl v1)] []
  refine a_aload_n (k := 0) dX11_lastEnd_0 rfl rfl ?_
  refine a_iload_n (k := 1) dX11_lastEnd_1 rfl rfl ?_
  refine a_bipush dX11_lastEnd_2 (by decide) (by decide) ?_
  refine k_X11_127 rfl dX11_lastEnd_4 (Nat.le_of_ble_eq_true rfl) rfl (Nat.le_of_ble_eq_true rfl) (Nat.le_of_ble_eq_true rfl) (St_ho hg St_399) h (fun x1 n2 μ3 h => ?_)
  refine a_if_le (tgt := 45) dX11_lastEnd_7 (by decide) (fun c4 => ?_) (fun c4 => ?_)
  · replace h := h.1 c4
    refine a_aload_n (k := 0) dX11_lastEnd_45 rfl rfl ?_
    refine a_iload_n (k := 1) dX11_lastEnd_46 rfl rfl ?_
    refine k_X11_134 rfl dX11_lastEnd_47 (Nat.le_of_ble_eq_true rfl) rfl (Nat.le_of_ble_eq_true rfl) (Nat.le_of_ble_eq_true rfl) (St_ho hg St_399) h (fun x5 n6 μ7 h => ?_)
    refine a_if_eq (tgt := 75) dX11_lastEnd_50 (by decide) (fun c8 => ?_) (fun c8 => ?_)
    · replace h := h.1 c8
      refine a_bipush dX11_lastEnd_75 (by decide) (by decide) ?_
      exact a_iret dX11_lastEnd_77 rfl (Nat.le_of_ble_eq_true rfl) (Nat.le_of_ble_eq_true rfl) h
    · replace h := h.2 c8
      refine a_aload_n (k := 0) dX11_lastEnd_53 rfl rfl ?_
      refine a_iload_n (k := 1) dX11_lastEnd_54 rfl rfl ?_
      refine a_aload_n (k := 0) dX11_lastEnd_55 rfl rfl ?_
      refine a_iload_n (k := 1) dX11_lastEnd_56 rfl rfl ?_
      refine a_bipush dX11_lastEnd_57 (by decide) (by decide) ?_
      refine k_X11_127 rfl dX11_lastEnd_59 (Nat.le_of_ble_eq_true rfl) rfl (Nat.le_of_ble_eq_true rfl) (Nat.le_of_ble_eq_true rfl) (St_ho hg St_399) h (fun x9 n10 μ11 h => ?_)
      refine a_aload_n (k := 0) dX11_lastEnd_62 rfl rfl ?_
      refine a_iload_n (k := 1) dX11_lastEnd_63 rfl rfl ?_
      refine a_bipush dX11_lastEnd_64 (by decide) (by decide) ?_
      refine k_X11_127 rfl dX11_lastEnd_66 (Nat.le_of_ble_eq_true rfl) rfl (Nat.le_of_ble_eq_true rfl) (Nat.le_of_ble_eq_true rfl) (St_ho hg St_399) h (fun x12 n13 μ14 h => ?_)
      refine k_X11_180 rfl dX11_lastEnd_69 (Nat.le_of_ble_eq_true rfl) rfl (Nat.le_of_ble_eq_true rfl) (Nat.le_of_ble_eq_true rfl) (St_ho hg St_399) h (fun x15 n16 μ17 h => ?_)
      refine a_goto (tgt := 77) dX11_lastEnd_72 (by decide) ?_
      exact a_iret dX11_lastEnd_77 rfl (Nat.le_of_ble_eq_true rfl) (Nat.le_of_ble_eq_true rfl) h
  · replace h := h.2 c4
    refine a_bipush dX11_lastEnd_10 (by decide) (by decide) ?_
    refine a_iconst dX11_lastEnd_12 (by decide) ?_
    refine a_aload_n (k := 0) dX11_lastEnd_13 rfl rfl ?_
    refine a_iload_n (k := 1) dX11_lastEnd_14 rfl rfl ?_
    refine a_bipush dX11_lastEnd_15 (by decide) (by decide) ?_
    refine k_X11_127 rfl dX11_lastEnd_17 (Nat.le_of_ble_eq_true rfl) rfl (Nat.le_of_ble_eq_true rfl) (Nat.le_of_ble_eq_true rfl) (St_ho hg St_399) h (fun x18 n19 μ20 h => ?_)
    obtain ⟨q21, h⟩ := h
    refine a_imul dX11_lastEnd_20 q21 ?_
    obtain ⟨q22, h⟩ := h
    refine a_iadd dX11_lastEnd_21 q22 ?_
    refine a_iconst dX11_lastEnd_22 (by decide) ?_
    obtain ⟨q23, h⟩ := h
    refine a_isub dX11_lastEnd_23 q23 ?_
    refine b_istore_n (L' := [(0, .inr 399), (1, .inl v1), (2, .inl ((10 + (2 * x18)) - 2))]) [1, 2, 0] dX11_lastEnd_24 rfl (Nat.le_of_ble_eq_true rfl) rfl ?_
    refine a_aload_n (k := 0) dX11_lastEnd_25 rfl rfl ?_
    refine a_iload_n (k := 1) dX11_lastEnd_26 rfl rfl ?_
    refine a_aload_n (k := 0) dX11_lastEnd_27 rfl rfl ?_
    refine a_iload_n (k := 1) dX11_lastEnd_28 rfl rfl ?_
    refine a_iload_n (k := 2) dX11_lastEnd_29 rfl rfl ?_
    refine k_X11_127 rfl dX11_lastEnd_30 (Nat.le_of_ble_eq_true rfl) rfl (Nat.le_of_ble_eq_true rfl) (Nat.le_of_ble_eq_true rfl) (St_ho hg St_399) h (fun x24 n25 μ26 h => ?_)
    refine a_aload_n (k := 0) dX11_lastEnd_33 rfl rfl ?_
    refine a_iload_n (k := 1) dX11_lastEnd_34 rfl rfl ?_
    refine a_iload_n (k := 2) dX11_lastEnd_35 rfl rfl ?_
    refine a_iconst dX11_lastEnd_36 (by decide) ?_
    obtain ⟨q27, h⟩ := h
    refine a_iadd dX11_lastEnd_37 q27 ?_
    refine k_X11_127 rfl dX11_lastEnd_38 (Nat.le_of_ble_eq_true rfl) rfl (Nat.le_of_ble_eq_true rfl) (Nat.le_of_ble_eq_true rfl) (St_ho hg St_399) h (fun x28 n29 μ30 h => ?_)
    refine k_X11_180 rfl dX11_lastEnd_41 (Nat.le_of_ble_eq_true rfl) rfl (Nat.le_of_ble_eq_true rfl) (Nat.le_of_ble_eq_true rfl) (St_ho hg St_399) h (fun x31 n32 μ33 h => ?_)
    exact a_iret dX11_lastEnd_44 rfl (Nat.le_of_ble_eq_true rfl) (Nat.le_of_ble_eq_true rfl) h
theorem m_X11_drops {G : GT} (hg : gx G = FX) {n : Nat} {μ : Mem} {Q : Int → Nat → Mem → Prop} {v1 : Int}  (h : (CI G Y_X11_isBundle [.inr 399, .inl v1] n (up μ 399 0 0) (fun (x1 : Int) (n2 : Nat) (μ3 : Mem) => ((¬ (x1 = 0) → (CI G Y_X11_stateOf [.inr 399, .inl v1] n2 μ3 (fun (x5 : Int) (n6 : Nat) (μ7 : Mem) => ((x5 ≤ 1 → (CV G Y_X11_notes [.inr 399] n6 μ7 (fun (n10 : Nat) (μ11 : Mem) => (CV G Y_X11_givesUp [.inr 399, .inl v1] n10 μ11 (fun (n13 : Nat) (μ14 : Mem) => (CI G Y_X11_at [.inl v1] n13 μ14 (fun (x15 : Int) (n16 : Nat) (μ17 : Mem) => ((inR (x15 + 5)) ∧ (((0 : Int) ≤ x15 + 5 ∧ x15 + 5 < 163) ∧ (Q 1 n16 (up μ17 402 (x15 + 5) 1))))))))))) ∧ (¬ (x5 ≤ 1) → (Q (-2) n6 μ7)))))) ∧ (x1 = 0 → (Q (-1) n2 μ3)))))) : CI G Y_X11_drops [.inr 399, .inl v1] n μ Q := by
  refine e_I (by decide) (Nat.le_of_ble_eq_true rfl) ?_
  show Wa G Y_X11_drops (ZI G Y_X11_drops Q) 0 0 n μ 0 [(0, .inr 399), (1, .inl v1)] []
  refine a_aload_n (k := 0) dX11_drops_0 rfl rfl ?_
  refine a_iconst dX11_drops_1 (by decide) ?_
  refine p_X11_62 rfl dX11_drops_2 (St_ho hg St_399) (FX_put hg St_399 rfl) ?_
  refine a_aload_n (k := 0) dX11_drops_5 rfl rfl ?_
  refine a_iload_n (k := 1) dX11_drops_6 rfl rfl ?_
  refine k_X11_217 rfl dX11_drops_7 (Nat.le_of_ble_eq_true rfl) rfl (Nat.le_of_ble_eq_true rfl) (Nat.le_of_ble_eq_true rfl) (St_ho hg St_399) h (fun x1 n2 μ3 h => ?_)
  refine a_if_ne (tgt := 15) dX11_drops_10 (by decide) (fun c4 => ?_) (fun c4 => ?_)
  · replace h := h.1 c4
    refine a_aload_n (k := 0) dX11_drops_15 rfl rfl ?_
    refine a_iload_n (k := 1) dX11_drops_16 rfl rfl ?_
    refine k_X11_140 rfl dX11_drops_17 (Nat.le_of_ble_eq_true rfl) rfl (Nat.le_of_ble_eq_true rfl) (Nat.le_of_ble_eq_true rfl) (St_ho hg St_399) h (fun x5 n6 μ7 h => ?_)
    refine a_iconst dX11_drops_20 (by decide) ?_
    refine a_icmp_le (tgt := 27) dX11_drops_21 (by decide) (fun c8 => ?_) (fun c8 => ?_)
    · replace h := h.1 c8
      refine a_aload_n (k := 0) dX11_drops_27 rfl rfl ?_
      refine k_X11_208 rfl dX11_drops_28 (Nat.le_of_ble_eq_true rfl) rfl (Nat.le_of_ble_eq_true rfl) (Nat.le_of_ble_eq_true rfl) (St_ho hg St_399) h (fun n10 μ11 h => ?_)
      refine a_aload_n (k := 0) dX11_drops_31 rfl rfl ?_
      refine a_iload_n (k := 1) dX11_drops_32 rfl rfl ?_
      refine k_X11_176 rfl dX11_drops_33 (Nat.le_of_ble_eq_true rfl) rfl (Nat.le_of_ble_eq_true rfl) (Nat.le_of_ble_eq_true rfl) (St_ho hg St_399) h (fun n13 μ14 h => ?_)
      refine a_aload_n (k := 0) dX11_drops_36 rfl rfl ?_
      refine gs_X11_16 rfl dX11_drops_37 hg St_399 ?_
      refine a_iload_n (k := 1) dX11_drops_40 rfl rfl ?_
      refine k_X11_123 rfl dX11_drops_41 (Nat.le_of_ble_eq_true rfl) rfl (Nat.le_of_ble_eq_true rfl) (Nat.le_of_ble_eq_true rfl) h (fun x15 n16 μ17 h => ?_)
      refine a_iconst dX11_drops_44 (by decide) ?_
      obtain ⟨q18, h⟩ := h
      refine a_iadd dX11_drops_45 q18 ?_
      refine a_iconst dX11_drops_46 (by decide) ?_
      obtain ⟨q19, h⟩ := h
      refine a_iastore dX11_drops_47 (St_ho hg St_402) q19.1 q19.2 (FX_put hg St_402 rfl) ?_
      refine a_iconst dX11_drops_48 (by decide) ?_
      exact a_iret dX11_drops_49 rfl (Nat.le_of_ble_eq_true rfl) (Nat.le_of_ble_eq_true rfl) h
    · replace h := h.2 c8
      refine a_bipush dX11_drops_24 (by decide) (by decide) ?_
      exact a_iret dX11_drops_26 rfl (Nat.le_of_ble_eq_true rfl) (Nat.le_of_ble_eq_true rfl) h
  · replace h := h.2 c4
    refine a_iconst dX11_drops_13 (by decide) ?_
    exact a_iret dX11_drops_14 rfl (Nat.le_of_ble_eq_true rfl) (Nat.le_of_ble_eq_true rfl) h
abbrev B_X11_moves_78 (G : GT) (Q : Nat → Mem → Prop) (n : Nat) (μ : Mem) (v1 : Int) : Prop := Wa G Y_X11_moves (ZV G Y_X11_moves Q) 0 0 n μ 78 [(0, .inr 399), (1, .inl v1)] []
abbrev B_X11_moves_148 (G : GT) (Q : Nat → Mem → Prop) (n : Nat) (μ : Mem) (v1 : Int) (v2 : Int) (v3 : Int) (v4 : Int) : Prop := Wa G Y_X11_moves (ZV G Y_X11_moves Q) 0 0 n μ 148 [(0, .inr 399), (1, .inl v1), (2, .inl v2), (3, .inl v3), (4, .inl v4)] []
theorem m_X11_moves {G : GT} (hg : gx G = FX) {n : Nat} {μ : Mem} {Q : Nat → Mem → Prop} {v1 : Int}  (h : (CI G Y_X11_isOn [.inr 399, .inl v1] n μ (fun (x1 : Int) (n2 : Nat) (μ3 : Mem) => ((x1 = 0 → (B_X11_moves_78 G Q n2 μ3 v1)) ∧ (¬ (x1 = 0) → (CI G Y_X11_its [.inr 399, .inl v1, .inl 7] n2 μ3 (fun (x5 : Int) (n6 : Nat) (μ7 : Mem) => (CI G Y_X11_its [.inr 399, .inl v1, .inl 8] n6 μ7 (fun (x8 : Int) (n9 : Nat) (μ10 : Mem) => (CI G Y_X11_arrival [.inr 399, .inl v1, .inl x5, .inl x8] n9 μ10 (fun (x11 : Int) (n12 : Nat) (μ13 : Mem) => (((μ13 402 0) < x11 → (B_X11_moves_78 G Q n12 μ13 v1)) ∧ (¬ ((μ13 402 0) < x11) → (CI G Y_X11_at [.inl v1] n12 μ13 (fun (x15 : Int) (n16 : Nat) (μ17 : Mem) => ((inR (x15 + 4)) ∧ (CI G Y_X11_its [.inr 399, .inl v1, .inl 7] n16 μ17 (fun (x19 : Int) (n20 : Nat) (μ21 : Mem) => ((inR (6 * x19)) ∧ ((inR ((6 * x19) + 1)) ∧ (((0 : Int) ≤ (6 * x19) + 1 ∧ (6 * x19) + 1 < 48) ∧ (((0 : Int) ≤ x15 + 4 ∧ x15 + 4 < 163) ∧ (CI G Y_X11_at [.inl v1] n20 (up μ21 402 (x15 + 4) (μ21 400 ((6 * x19) + 1))) (fun (x26 : Int) (n27 : Nat) (μ28 : Mem) => ((inR (x26 + 7)) ∧ (((0 : Int) ≤ x26 + 7 ∧ x26 + 7 < 163) ∧ (B_X11_moves_78 G Q n27 (up μ28 402 (x26 + 7) (-9)) v1))))))))))))))))))))))))))) : CV G Y_X11_moves [.inr 399, .inl v1] n μ Q := by
  refine e_V (by decide) (Nat.le_of_ble_eq_true rfl) ?_
  show Wa G Y_X11_moves (ZV G Y_X11_moves Q) 0 0 n μ 0 [(0, .inr 399), (1, .inl v1)] []
  refine a_aload_n (k := 0) dX11_moves_0 rfl rfl ?_
  refine a_iload_n (k := 1) dX11_moves_1 rfl rfl ?_
  refine k_X11_134 rfl dX11_moves_2 (Nat.le_of_ble_eq_true rfl) rfl (Nat.le_of_ble_eq_true rfl) (Nat.le_of_ble_eq_true rfl) (St_ho hg St_399) h (fun x1 n2 μ3 h => ?_)
  refine a_if_eq (tgt := 78) dX11_moves_5 (by decide) (fun c4 => ?_) (fun c4 => ?_)
  · replace h := h.1 c4
    exact h
  · replace h := h.2 c4
    refine a_aload_n (k := 0) dX11_moves_8 rfl rfl ?_
    refine a_iload_n (k := 1) dX11_moves_9 rfl rfl ?_
    refine a_aload_n (k := 0) dX11_moves_10 rfl rfl ?_
    refine a_iload_n (k := 1) dX11_moves_11 rfl rfl ?_
    refine a_bipush dX11_moves_12 (by decide) (by decide) ?_
    refine k_X11_127 rfl dX11_moves_14 (Nat.le_of_ble_eq_true rfl) rfl (Nat.le_of_ble_eq_true rfl) (Nat.le_of_ble_eq_true rfl) (St_ho hg St_399) h (fun x5 n6 μ7 h => ?_)
    refine a_aload_n (k := 0) dX11_moves_17 rfl rfl ?_
    refine a_iload_n (k := 1) dX11_moves_18 rfl rfl ?_
    refine a_bipush dX11_moves_19 (by decide) (by decide) ?_
    refine k_X11_127 rfl dX11_moves_21 (Nat.le_of_ble_eq_true rfl) rfl (Nat.le_of_ble_eq_true rfl) (Nat.le_of_ble_eq_true rfl) (St_ho hg St_399) h (fun x8 n9 μ10 h => ?_)
    refine k_X11_180 rfl dX11_moves_24 (Nat.le_of_ble_eq_true rfl) rfl (Nat.le_of_ble_eq_true rfl) (Nat.le_of_ble_eq_true rfl) (St_ho hg St_399) h (fun x11 n12 μ13 h => ?_)
    refine a_aload_n (k := 0) dX11_moves_27 rfl rfl ?_
    refine gs_X11_16 rfl dX11_moves_28 hg St_399 ?_
    refine a_iconst dX11_moves_31 (by decide) ?_
    refine a_iaload dX11_moves_32 (St_ho hg St_402) (by decide) (by decide) ?_
    refine a_icmp_gt (tgt := 78) dX11_moves_33 (by decide) (fun c14 => ?_) (fun c14 => ?_)
    · replace h := h.1 c14
      exact h
    · replace h := h.2 c14
      refine a_aload_n (k := 0) dX11_moves_36 rfl rfl ?_
      refine gs_X11_16 rfl dX11_moves_37 hg St_399 ?_
      refine a_iload_n (k := 1) dX11_moves_40 rfl rfl ?_
      refine k_X11_123 rfl dX11_moves_41 (Nat.le_of_ble_eq_true rfl) rfl (Nat.le_of_ble_eq_true rfl) (Nat.le_of_ble_eq_true rfl) h (fun x15 n16 μ17 h => ?_)
      refine a_iconst dX11_moves_44 (by decide) ?_
      obtain ⟨q18, h⟩ := h
      refine a_iadd dX11_moves_45 q18 ?_
      refine a_aload_n (k := 0) dX11_moves_46 rfl rfl ?_
      refine gs_X11_7 rfl dX11_moves_47 hg St_399 ?_
      refine a_bipush dX11_moves_50 (by decide) (by decide) ?_
      refine a_aload_n (k := 0) dX11_moves_52 rfl rfl ?_
      refine a_iload_n (k := 1) dX11_moves_53 rfl rfl ?_
      refine a_bipush dX11_moves_54 (by decide) (by decide) ?_
      refine k_X11_127 rfl dX11_moves_56 (Nat.le_of_ble_eq_true rfl) rfl (Nat.le_of_ble_eq_true rfl) (Nat.le_of_ble_eq_true rfl) (St_ho hg St_399) h (fun x19 n20 μ21 h => ?_)
      obtain ⟨q22, h⟩ := h
      refine a_imul dX11_moves_59 q22 ?_
      refine a_iconst dX11_moves_60 (by decide) ?_
      obtain ⟨q23, h⟩ := h
      refine a_iadd dX11_moves_61 q23 ?_
      obtain ⟨q24, h⟩ := h
      refine a_iaload dX11_moves_62 (St_ho hg St_400) q24.1 q24.2 ?_
      obtain ⟨q25, h⟩ := h
      refine a_iastore dX11_moves_63 (St_ho hg St_402) q25.1 q25.2 (FX_put hg St_402 rfl) ?_
      refine a_aload_n (k := 0) dX11_moves_64 rfl rfl ?_
      refine gs_X11_16 rfl dX11_moves_65 hg St_399 ?_
      refine a_iload_n (k := 1) dX11_moves_68 rfl rfl ?_
      refine k_X11_123 rfl dX11_moves_69 (Nat.le_of_ble_eq_true rfl) rfl (Nat.le_of_ble_eq_true rfl) (Nat.le_of_ble_eq_true rfl) h (fun x26 n27 μ28 h => ?_)
      refine a_bipush dX11_moves_72 (by decide) (by decide) ?_
      obtain ⟨q29, h⟩ := h
      refine a_iadd dX11_moves_74 q29 ?_
      refine a_bipush dX11_moves_75 (by decide) (by decide) ?_
      obtain ⟨q30, h⟩ := h
      refine a_iastore dX11_moves_77 (St_ho hg St_402) q30.1 q30.2 (FX_put hg St_402 rfl) ?_
      exact h
theorem b_X11_moves_78 {G : GT} (hg : gx G = FX) {n : Nat} {μ : Mem} {Q : Nat → Mem → Prop} {v1 : Int}  (h : (CI G Y_X11_isOn [.inr 399, .inl v1] n μ (fun (x1 : Int) (n2 : Nat) (μ3 : Mem) => ((¬ (x1 = 0) → (Q n2 μ3)) ∧ (x1 = 0 → (CI G Y_X11_its [.inr 399, .inl v1, .inl 9] n2 μ3 (fun (x5 : Int) (n6 : Nat) (μ7 : Mem) => ((x5 ≤ 0 → (Q n6 μ7)) ∧ (¬ (x5 ≤ 0) → (CI G Y_X11_its [.inr 399, .inl v1, .inl 11] n6 μ7 (fun (x9 : Int) (n10 : Nat) (μ11 : Mem) => (((μ11 402 0) ≤ x9 → (Q n10 μ11)) ∧ (¬ ((μ11 402 0) ≤ x9) → (CI G Y_X11_its [.inr 399, .inl v1, .inl 10] n10 μ11 (fun (x13 : Int) (n14 : Nat) (μ15 : Mem) => (CI G Y_X11_its [.inr 399, .inl v1, .inl 11] n14 μ15 (fun (x16 : Int) (n17 : Nat) (μ18 : Mem) => (CI G Y_X11_at [.inl v1] n17 μ18 (fun (x19 : Int) (n20 : Nat) (μ21 : Mem) => ((inR (x19 + 9)) ∧ (((0 : Int) ≤ x19 + 9 ∧ x19 + 9 < 163) ∧ ((inR ((μ21 402 (x19 + 9)) - 1)) ∧ (((0 : Int) ≤ x19 + 9 ∧ x19 + 9 < 163) ∧ (B_X11_moves_148 G Q n20 (up μ21 402 (x19 + 9) ((μ21 402 (x19 + 9)) - 1)) v1 x13 x16 10)))))))))))))))))))))))) : B_X11_moves_78 G Q n μ v1 := by
  show Wa G Y_X11_moves (ZV G Y_X11_moves Q) 0 0 n μ 78 [(0, .inr 399), (1, .inl v1)] []
  refine a_aload_n (k := 0) dX11_moves_78 rfl rfl ?_
  refine a_iload_n (k := 1) dX11_moves_79 rfl rfl ?_
  refine k_X11_134 rfl dX11_moves_80 (Nat.le_of_ble_eq_true rfl) rfl (Nat.le_of_ble_eq_true rfl) (Nat.le_of_ble_eq_true rfl) (St_ho hg St_399) h (fun x1 n2 μ3 h => ?_)
  refine a_if_ne (tgt := 262) dX11_moves_83 (by decide) (fun c4 => ?_) (fun c4 => ?_)
  · replace h := h.1 c4
    exact a_ret dX11_moves_262 rfl (Nat.le_of_ble_eq_true rfl) (Nat.le_of_ble_eq_true rfl) h
  · replace h := h.2 c4
    refine a_aload_n (k := 0) dX11_moves_86 rfl rfl ?_
    refine a_iload_n (k := 1) dX11_moves_87 rfl rfl ?_
    refine a_bipush dX11_moves_88 (by decide) (by decide) ?_
    refine k_X11_127 rfl dX11_moves_90 (Nat.le_of_ble_eq_true rfl) rfl (Nat.le_of_ble_eq_true rfl) (Nat.le_of_ble_eq_true rfl) (St_ho hg St_399) h (fun x5 n6 μ7 h => ?_)
    refine a_if_le (tgt := 262) dX11_moves_93 (by decide) (fun c8 => ?_) (fun c8 => ?_)
    · replace h := h.1 c8
      exact a_ret dX11_moves_262 rfl (Nat.le_of_ble_eq_true rfl) (Nat.le_of_ble_eq_true rfl) h
    · replace h := h.2 c8
      refine a_aload_n (k := 0) dX11_moves_96 rfl rfl ?_
      refine a_iload_n (k := 1) dX11_moves_97 rfl rfl ?_
      refine a_bipush dX11_moves_98 (by decide) (by decide) ?_
      refine k_X11_127 rfl dX11_moves_100 (Nat.le_of_ble_eq_true rfl) rfl (Nat.le_of_ble_eq_true rfl) (Nat.le_of_ble_eq_true rfl) (St_ho hg St_399) h (fun x9 n10 μ11 h => ?_)
      refine a_aload_n (k := 0) dX11_moves_103 rfl rfl ?_
      refine gs_X11_16 rfl dX11_moves_104 hg St_399 ?_
      refine a_iconst dX11_moves_107 (by decide) ?_
      refine a_iaload dX11_moves_108 (St_ho hg St_402) (by decide) (by decide) ?_
      refine a_icmp_ge (tgt := 262) dX11_moves_109 (by decide) (fun c12 => ?_) (fun c12 => ?_)
      · replace h := h.1 c12
        exact a_ret dX11_moves_262 rfl (Nat.le_of_ble_eq_true rfl) (Nat.le_of_ble_eq_true rfl) h
      · replace h := h.2 c12
        refine a_aload_n (k := 0) dX11_moves_112 rfl rfl ?_
        refine a_iload_n (k := 1) dX11_moves_113 rfl rfl ?_
        refine a_bipush dX11_moves_114 (by decide) (by decide) ?_
        refine k_X11_127 rfl dX11_moves_116 (Nat.le_of_ble_eq_true rfl) rfl (Nat.le_of_ble_eq_true rfl) (Nat.le_of_ble_eq_true rfl) (St_ho hg St_399) h (fun x13 n14 μ15 h => ?_)
        refine b_istore_n (L' := [(0, .inr 399), (1, .inl v1), (2, .inl x13)]) [1, 2, 0] dX11_moves_119 rfl (Nat.le_of_ble_eq_true rfl) rfl ?_
        refine a_aload_n (k := 0) dX11_moves_120 rfl rfl ?_
        refine a_iload_n (k := 1) dX11_moves_121 rfl rfl ?_
        refine a_bipush dX11_moves_122 (by decide) (by decide) ?_
        refine k_X11_127 rfl dX11_moves_124 (Nat.le_of_ble_eq_true rfl) rfl (Nat.le_of_ble_eq_true rfl) (Nat.le_of_ble_eq_true rfl) (St_ho hg St_399) h (fun x16 n17 μ18 h => ?_)
        refine b_istore_n (L' := [(0, .inr 399), (1, .inl v1), (2, .inl x13), (3, .inl x16)]) [1, 2, 3, 0] dX11_moves_127 rfl (Nat.le_of_ble_eq_true rfl) rfl ?_
        refine a_aload_n (k := 0) dX11_moves_128 rfl rfl ?_
        refine gs_X11_16 rfl dX11_moves_129 hg St_399 ?_
        refine a_iload_n (k := 1) dX11_moves_132 rfl rfl ?_
        refine k_X11_123 rfl dX11_moves_133 (Nat.le_of_ble_eq_true rfl) rfl (Nat.le_of_ble_eq_true rfl) (Nat.le_of_ble_eq_true rfl) h (fun x19 n20 μ21 h => ?_)
        refine a_bipush dX11_moves_136 (by decide) (by decide) ?_
        obtain ⟨q22, h⟩ := h
        refine a_iadd dX11_moves_138 q22 ?_
        refine a_dup2 dX11_moves_139 ?_
        obtain ⟨q23, h⟩ := h
        refine a_iaload dX11_moves_140 (St_ho hg St_402) q23.1 q23.2 ?_
        refine a_iconst dX11_moves_141 (by decide) ?_
        obtain ⟨q24, h⟩ := h
        refine a_isub dX11_moves_142 q24 ?_
        obtain ⟨q25, h⟩ := h
        refine a_iastore dX11_moves_143 (St_ho hg St_402) q25.1 q25.2 (FX_put hg St_402 rfl) ?_
        refine a_bipush dX11_moves_144 (by decide) (by decide) ?_
        refine b_istore (L' := [(0, .inr 399), (1, .inl v1), (2, .inl x13), (3, .inl x16), (4, .inl 10)]) [1, 2, 3, 4, 0] dX11_moves_146 (Nat.le_of_ble_eq_true rfl) rfl ?_
        exact h
theorem b_X11_moves_148 {G : GT} (hg : gx G = FX) {n : Nat} {μ : Mem} {Q : Nat → Mem → Prop} {v1 v2 v3 v4 : Int}  (h : (CI G Y_X11_its [.inr 399, .inl v1, .inl 9] n μ (fun (x1 : Int) (n2 : Nat) (μ3 : Mem) => ((inR (2 * x1)) ∧ ((inR (10 + (2 * x1))) ∧ (((10 + (2 * x1)) ≤ v4 → (CI G Y_X11_arrival [.inr 399, .inl v1, .inl v2, .inl v3] n2 μ3 (fun (x7 : Int) (n8 : Nat) (μ9 : Mem) => (((μ9 402 0) < x7 → (CI G Y_X11_at [.inl v1] n8 μ9 (fun (x11 : Int) (n12 : Nat) (μ13 : Mem) => ((inR (x11 + 7)) ∧ (((0 : Int) ≤ x11 + 7 ∧ x11 + 7 < 163) ∧ (CI G Y_X11_at [.inl v1] n12 (up μ13 402 (x11 + 7) v2) (fun (x16 : Int) (n17 : Nat) (μ18 : Mem) => ((inR (x16 + 8)) ∧ (((0 : Int) ≤ x16 + 8 ∧ x16 + 8 < 163) ∧ (B_X11_moves_78 G Q n17 (up μ18 402 (x16 + 8) v3) v1)))))))))) ∧ (¬ ((μ9 402 0) < x7) → (CI G Y_X11_at [.inl v1] n8 μ9 (fun (x21 : Int) (n22 : Nat) (μ23 : Mem) => ((inR (x21 + 4)) ∧ ((inR (6 * v2)) ∧ ((inR ((6 * v2) + 1)) ∧ (((0 : Int) ≤ (6 * v2) + 1 ∧ (6 * v2) + 1 < 48) ∧ (((0 : Int) ≤ x21 + 4 ∧ x21 + 4 < 163) ∧ (B_X11_moves_78 G Q n22 (up μ23 402 (x21 + 4) (μ23 400 ((6 * v2) + 1))) v1))))))))))))) ∧ (¬ ((10 + (2 * x1)) ≤ v4) → (CI G Y_X11_at [.inl v1] n2 μ3 (fun (x29 : Int) (n30 : Nat) (μ31 : Mem) => ((inR (x29 + v4)) ∧ ((inR (v4 + 2)) ∧ (CI G Y_X11_its [.inr 399, .inl v1, .inl (v4 + 2)] n30 μ31 (fun (x34 : Int) (n35 : Nat) (μ36 : Mem) => (((0 : Int) ≤ x29 + v4 ∧ x29 + v4 < 163) ∧ ((inR (v4 + 1)) ∧ (B_X11_moves_148 G Q n35 (up μ36 402 (x29 + v4) x34) v1 v2 v3 (v4 + 1))))))))))))))))) : B_X11_moves_148 G Q n μ v1 v2 v3 v4 := by
  show Wa G Y_X11_moves (ZV G Y_X11_moves Q) 0 0 n μ 148 [(0, .inr 399), (1, .inl v1), (2, .inl v2), (3, .inl v3), (4, .inl v4)] []
  refine a_iload (k := 4) dX11_moves_148 rfl ?_
  refine a_bipush dX11_moves_150 (by decide) (by decide) ?_
  refine a_iconst dX11_moves_152 (by decide) ?_
  refine a_aload_n (k := 0) dX11_moves_153 rfl rfl ?_
  refine a_iload_n (k := 1) dX11_moves_154 rfl rfl ?_
  refine a_bipush dX11_moves_155 (by decide) (by decide) ?_
  refine k_X11_127 rfl dX11_moves_157 (Nat.le_of_ble_eq_true rfl) rfl (Nat.le_of_ble_eq_true rfl) (Nat.le_of_ble_eq_true rfl) (St_ho hg St_399) h (fun x1 n2 μ3 h => ?_)
  obtain ⟨q4, h⟩ := h
  refine a_imul dX11_moves_160 q4 ?_
  obtain ⟨q5, h⟩ := h
  refine a_iadd dX11_moves_161 q5 ?_
  refine a_icmp_ge (tgt := 192) dX11_moves_162 (by decide) (fun c6 => ?_) (fun c6 => ?_)
  · replace h := h.1 c6
    refine a_aload_n (k := 0) dX11_moves_192 rfl rfl ?_
    refine a_iload_n (k := 1) dX11_moves_193 rfl rfl ?_
    refine a_iload_n (k := 2) dX11_moves_194 rfl rfl ?_
    refine a_iload_n (k := 3) dX11_moves_195 rfl rfl ?_
    refine k_X11_180 rfl dX11_moves_196 (Nat.le_of_ble_eq_true rfl) rfl (Nat.le_of_ble_eq_true rfl) (Nat.le_of_ble_eq_true rfl) (St_ho hg St_399) h (fun x7 n8 μ9 h => ?_)
    refine a_aload_n (k := 0) dX11_moves_199 rfl rfl ?_
    refine gs_X11_16 rfl dX11_moves_200 hg St_399 ?_
    refine a_iconst dX11_moves_203 (by decide) ?_
    refine a_iaload dX11_moves_204 (St_ho hg St_402) (by decide) (by decide) ?_
    refine a_icmp_gt (tgt := 233) dX11_moves_205 (by decide) (fun c10 => ?_) (fun c10 => ?_)
    · replace h := h.1 c10
      refine a_aload_n (k := 0) dX11_moves_233 rfl rfl ?_
      refine gs_X11_16 rfl dX11_moves_234 hg St_399 ?_
      refine a_iload_n (k := 1) dX11_moves_237 rfl rfl ?_
      refine k_X11_123 rfl dX11_moves_238 (Nat.le_of_ble_eq_true rfl) rfl (Nat.le_of_ble_eq_true rfl) (Nat.le_of_ble_eq_true rfl) h (fun x11 n12 μ13 h => ?_)
      refine a_bipush dX11_moves_241 (by decide) (by decide) ?_
      obtain ⟨q14, h⟩ := h
      refine a_iadd dX11_moves_243 q14 ?_
      refine a_iload_n (k := 2) dX11_moves_244 rfl rfl ?_
      obtain ⟨q15, h⟩ := h
      refine a_iastore dX11_moves_245 (St_ho hg St_402) q15.1 q15.2 (FX_put hg St_402 rfl) ?_
      refine a_aload_n (k := 0) dX11_moves_246 rfl rfl ?_
      refine gs_X11_16 rfl dX11_moves_247 hg St_399 ?_
      refine a_iload_n (k := 1) dX11_moves_250 rfl rfl ?_
      refine k_X11_123 rfl dX11_moves_251 (Nat.le_of_ble_eq_true rfl) rfl (Nat.le_of_ble_eq_true rfl) (Nat.le_of_ble_eq_true rfl) h (fun x16 n17 μ18 h => ?_)
      refine a_bipush dX11_moves_254 (by decide) (by decide) ?_
      obtain ⟨q19, h⟩ := h
      refine a_iadd dX11_moves_256 q19 ?_
      refine a_iload_n (k := 3) dX11_moves_257 rfl rfl ?_
      obtain ⟨q20, h⟩ := h
      refine a_iastore dX11_moves_258 (St_ho hg St_402) q20.1 q20.2 (FX_put hg St_402 rfl) ?_
      refine a_goto (tgt := 78) dX11_moves_259 (by decide) ?_
      refine a_sub [0, 1] rfl ?_
      exact h
    · replace h := h.2 c10
      refine a_aload_n (k := 0) dX11_moves_208 rfl rfl ?_
      refine gs_X11_16 rfl dX11_moves_209 hg St_399 ?_
      refine a_iload_n (k := 1) dX11_moves_212 rfl rfl ?_
      refine k_X11_123 rfl dX11_moves_213 (Nat.le_of_ble_eq_true rfl) rfl (Nat.le_of_ble_eq_true rfl) (Nat.le_of_ble_eq_true rfl) h (fun x21 n22 μ23 h => ?_)
      refine a_iconst dX11_moves_216 (by decide) ?_
      obtain ⟨q24, h⟩ := h
      refine a_iadd dX11_moves_217 q24 ?_
      refine a_aload_n (k := 0) dX11_moves_218 rfl rfl ?_
      refine gs_X11_7 rfl dX11_moves_219 hg St_399 ?_
      refine a_bipush dX11_moves_222 (by decide) (by decide) ?_
      refine a_iload_n (k := 2) dX11_moves_224 rfl rfl ?_
      obtain ⟨q25, h⟩ := h
      refine a_imul dX11_moves_225 q25 ?_
      refine a_iconst dX11_moves_226 (by decide) ?_
      obtain ⟨q26, h⟩ := h
      refine a_iadd dX11_moves_227 q26 ?_
      obtain ⟨q27, h⟩ := h
      refine a_iaload dX11_moves_228 (St_ho hg St_400) q27.1 q27.2 ?_
      obtain ⟨q28, h⟩ := h
      refine a_iastore dX11_moves_229 (St_ho hg St_402) q28.1 q28.2 (FX_put hg St_402 rfl) ?_
      refine a_goto (tgt := 259) dX11_moves_230 (by decide) ?_
      refine a_goto (tgt := 78) dX11_moves_259 (by decide) ?_
      refine a_sub [0, 1] rfl ?_
      exact h
  · replace h := h.2 c6
    refine a_aload_n (k := 0) dX11_moves_165 rfl rfl ?_
    refine gs_X11_16 rfl dX11_moves_166 hg St_399 ?_
    refine a_iload_n (k := 1) dX11_moves_169 rfl rfl ?_
    refine k_X11_123 rfl dX11_moves_170 (Nat.le_of_ble_eq_true rfl) rfl (Nat.le_of_ble_eq_true rfl) (Nat.le_of_ble_eq_true rfl) h (fun x29 n30 μ31 h => ?_)
    refine a_iload (k := 4) dX11_moves_173 rfl ?_
    obtain ⟨q32, h⟩ := h
    refine a_iadd dX11_moves_175 q32 ?_
    refine a_aload_n (k := 0) dX11_moves_176 rfl rfl ?_
    refine a_iload_n (k := 1) dX11_moves_177 rfl rfl ?_
    refine a_iload (k := 4) dX11_moves_178 rfl ?_
    refine a_iconst dX11_moves_180 (by decide) ?_
    obtain ⟨q33, h⟩ := h
    refine a_iadd dX11_moves_181 q33 ?_
    refine k_X11_127 rfl dX11_moves_182 (Nat.le_of_ble_eq_true rfl) rfl (Nat.le_of_ble_eq_true rfl) (Nat.le_of_ble_eq_true rfl) (St_ho hg St_399) h (fun x34 n35 μ36 h => ?_)
    obtain ⟨q37, h⟩ := h
    refine a_iastore dX11_moves_185 (St_ho hg St_402) q37.1 q37.2 (FX_put hg St_402 rfl) ?_
    obtain ⟨q38, h⟩ := h
    refine b_iinc (L' := [(0, .inr 399), (1, .inl v1), (2, .inl v2), (3, .inl v3), (4, .inl (v4 + 1))]) (k := 4) [1, 2, 3, 4, 0] dX11_moves_186 rfl q38 (Nat.le_of_ble_eq_true rfl) rfl ?_
    refine a_goto (tgt := 148) dX11_moves_189 (by decide) ?_
    exact h
abbrev B_X11_passes_49 (G : GT) (Q : Int → Nat → Mem → Prop) (n : Nat) (μ : Mem) (v2 : Int) : Prop := Wa G Y_X11_passes (ZI G Y_X11_passes Q) 0 0 n μ 49 [(0, .inr 399), (2, .inl v2)] []
theorem m_X11_passes {G : GT} (hg : gx G = FX) {n : Nat} {μ : Mem} {Q : Int → Nat → Mem → Prop} {v1 : Int}  (h : (CI G Y_X11_in [.inl v1, .inl 1, .inl 99] n (up μ 399 0 0) (fun (x1 : Int) (n2 : Nat) (μ3 : Mem) => ((¬ (x1 = 0) → ((inR ((μ3 402 0) + v1)) ∧ ((((μ3 402 0) + v1) ≤ 99 → (CV G Y_X11_notes [.inr 399] n2 μ3 (fun (n8 : Nat) (μ9 : Mem) => ((inR ((μ9 402 0) + v1)) ∧ (B_X11_passes_49 G Q n8 (up μ9 402 0 ((μ9 402 0) + v1)) 0))))) ∧ (¬ (((μ3 402 0) + v1) ≤ 99) → (Q (-2) n2 μ3))))) ∧ (x1 = 0 → (Q (-1) n2 μ3)))))) : CI G Y_X11_passes [.inr 399, .inl v1] n μ Q := by
  refine e_I (by decide) (Nat.le_of_ble_eq_true rfl) ?_
  show Wa G Y_X11_passes (ZI G Y_X11_passes Q) 0 0 n μ 0 [(0, .inr 399), (1, .inl v1)] []
  refine a_aload_n (k := 0) dX11_passes_0 rfl rfl ?_
  refine a_iconst dX11_passes_1 (by decide) ?_
  refine p_X11_62 rfl dX11_passes_2 (St_ho hg St_399) (FX_put hg St_399 rfl) ?_
  refine a_iload_n (k := 1) dX11_passes_5 rfl rfl ?_
  refine a_iconst dX11_passes_6 (by decide) ?_
  refine a_bipush dX11_passes_7 (by decide) (by decide) ?_
  refine k_X11_69 rfl dX11_passes_9 (Nat.le_of_ble_eq_true rfl) rfl (Nat.le_of_ble_eq_true rfl) (Nat.le_of_ble_eq_true rfl) h (fun x1 n2 μ3 h => ?_)
  refine a_if_ne (tgt := 17) dX11_passes_12 (by decide) (fun c4 => ?_) (fun c4 => ?_)
  · replace h := h.1 c4
    refine a_aload_n (k := 0) dX11_passes_17 rfl rfl ?_
    refine gs_X11_16 rfl dX11_passes_18 hg St_399 ?_
    refine a_iconst dX11_passes_21 (by decide) ?_
    refine a_iaload dX11_passes_22 (St_ho hg St_402) (by decide) (by decide) ?_
    refine a_iload_n (k := 1) dX11_passes_23 rfl rfl ?_
    obtain ⟨q5, h⟩ := h
    refine a_iadd dX11_passes_24 q5 ?_
    refine a_bipush dX11_passes_25 (by decide) (by decide) ?_
    refine a_icmp_le (tgt := 33) dX11_passes_27 (by decide) (fun c6 => ?_) (fun c6 => ?_)
    · replace h := h.1 c6
      refine a_aload_n (k := 0) dX11_passes_33 rfl rfl ?_
      refine k_X11_208 rfl dX11_passes_34 (Nat.le_of_ble_eq_true rfl) rfl (Nat.le_of_ble_eq_true rfl) (Nat.le_of_ble_eq_true rfl) (St_ho hg St_399) h (fun n8 μ9 h => ?_)
      refine a_aload_n (k := 0) dX11_passes_37 rfl rfl ?_
      refine gs_X11_16 rfl dX11_passes_38 hg St_399 ?_
      refine a_iconst dX11_passes_41 (by decide) ?_
      refine a_dup2 dX11_passes_42 ?_
      refine a_iaload dX11_passes_43 (St_ho hg St_402) (by decide) (by decide) ?_
      refine a_iload_n (k := 1) dX11_passes_44 rfl rfl ?_
      obtain ⟨q10, h⟩ := h
      refine a_iadd dX11_passes_45 q10 ?_
      refine a_iastore dX11_passes_46 (St_ho hg St_402) (by decide) (by decide) (FX_put hg St_402 rfl) ?_
      refine a_iconst dX11_passes_47 (by decide) ?_
      refine b_istore_n (L' := [(0, .inr 399), (1, .inl v1), (2, .inl 0)]) [1, 2, 0] dX11_passes_48 rfl (Nat.le_of_ble_eq_true rfl) rfl ?_
      refine a_sub [0, 2] rfl ?_
      exact h
    · replace h := h.2 c6
      refine a_bipush dX11_passes_30 (by decide) (by decide) ?_
      exact a_iret dX11_passes_32 rfl (Nat.le_of_ble_eq_true rfl) (Nat.le_of_ble_eq_true rfl) h
  · replace h := h.2 c4
    refine a_iconst dX11_passes_15 (by decide) ?_
    exact a_iret dX11_passes_16 rfl (Nat.le_of_ble_eq_true rfl) (Nat.le_of_ble_eq_true rfl) h
theorem b_X11_passes_49 {G : GT} (hg : gx G = FX) {n : Nat} {μ : Mem} {Q : Int → Nat → Mem → Prop} {v2 : Int}  (h : (((μ 402 2) ≤ v2 → (Q (μ 402 0) n μ)) ∧ (¬ ((μ 402 2) ≤ v2) → (CV G Y_X11_moves [.inr 399, .inl v2] n μ (fun (n3 : Nat) (μ4 : Mem) => ((inR (v2 + 1)) ∧ (B_X11_passes_49 G Q n3 μ4 (v2 + 1)))))))) : B_X11_passes_49 G Q n μ v2 := by
  show Wa G Y_X11_passes (ZI G Y_X11_passes Q) 0 0 n μ 49 [(0, .inr 399), (2, .inl v2)] []
  refine a_iload_n (k := 1) dX11_passes_49 rfl rfl ?_
  refine a_aload_n (k := 0) dX11_passes_50 rfl rfl ?_
  refine gs_X11_16 rfl dX11_passes_51 hg St_399 ?_
  refine a_iconst dX11_passes_54 (by decide) ?_
  refine a_iaload dX11_passes_55 (St_ho hg St_402) (by decide) (by decide) ?_
  refine a_icmp_ge (tgt := 70) dX11_passes_56 (by decide) (fun c1 => ?_) (fun c1 => ?_)
  · replace h := h.1 c1
    refine a_aload_n (k := 0) dX11_passes_70 rfl rfl ?_
    refine gs_X11_16 rfl dX11_passes_71 hg St_399 ?_
    refine a_iconst dX11_passes_74 (by decide) ?_
    refine a_iaload dX11_passes_75 (St_ho hg St_402) (by decide) (by decide) ?_
    exact a_iret dX11_passes_76 rfl (Nat.le_of_ble_eq_true rfl) (Nat.le_of_ble_eq_true rfl) h
  · replace h := h.2 c1
    refine a_aload_n (k := 0) dX11_passes_59 rfl rfl ?_
    refine a_iload_n (k := 1) dX11_passes_60 rfl rfl ?_
    refine k_X11_220 rfl dX11_passes_61 (Nat.le_of_ble_eq_true rfl) rfl (Nat.le_of_ble_eq_true rfl) (Nat.le_of_ble_eq_true rfl) (St_ho hg St_399) h (fun n3 μ4 h => ?_)
    obtain ⟨q5, h⟩ := h
    refine b_iinc (L' := [(0, .inr 399), (2, .inl (v2 + 1))]) (k := 1) [1, 0] dX11_passes_64 rfl q5 (Nat.le_of_ble_eq_true rfl) rfl ?_
    refine a_goto (tgt := 49) dX11_passes_67 (by decide) ?_
    exact h
abbrev B_X11_hasHopOn_2 (G : GT) (Q : Int → Nat → Mem → Prop) (n : Nat) (μ : Mem) (v1 : Int) (v2 : Int) (v3 : Int) : Prop := Wa G Y_X11_hasHopOn (ZI G Y_X11_hasHopOn Q) 0 0 n μ 2 [(0, .inr 399), (1, .inl v1), (2, .inl v2), (3, .inl v3)] []
theorem m_X11_hasHopOn {G : GT} (hg : gx G = FX) {n : Nat} {μ : Mem} {Q : Int → Nat → Mem → Prop} {v1 v2 : Int}  (h : (B_X11_hasHopOn_2 G Q n μ v1 v2 0)) : CI G Y_X11_hasHopOn [.inr 399, .inl v1, .inl v2] n μ Q := by
  refine e_I (by decide) (Nat.le_of_ble_eq_true rfl) ?_
  show Wa G Y_X11_hasHopOn (ZI G Y_X11_hasHopOn Q) 0 0 n μ 0 [(0, .inr 399), (1, .inl v1), (2, .inl v2)] []
  refine a_iconst dX11_hasHopOn_0 (by decide) ?_
  refine b_istore_n (L' := [(0, .inr 399), (1, .inl v1), (2, .inl v2), (3, .inl 0)]) [1, 2, 3, 0] dX11_hasHopOn_1 rfl (Nat.le_of_ble_eq_true rfl) rfl ?_
  exact h
theorem b_X11_hasHopOn_2 {G : GT} (hg : gx G = FX) {n : Nat} {μ : Mem} {Q : Int → Nat → Mem → Prop} {v1 v2 v3 : Int}  (h : (CI G Y_X11_its [.inr 399, .inl v1, .inl 9] n μ (fun (x1 : Int) (n2 : Nat) (μ3 : Mem) => ((x1 ≤ v3 → (Q 0 n2 μ3)) ∧ (¬ (x1 ≤ v3) → ((inR (2 * v3)) ∧ ((inR (10 + (2 * v3))) ∧ (CI G Y_X11_its [.inr 399, .inl v1, .inl (10 + (2 * v3))] n2 μ3 (fun (x7 : Int) (n8 : Nat) (μ9 : Mem) => ((¬ (x7 = v2) → ((inR (v3 + 1)) ∧ (B_X11_hasHopOn_2 G Q n8 μ9 v1 v2 (v3 + 1)))) ∧ (x7 = v2 → (Q 1 n8 μ9)))))))))))) : B_X11_hasHopOn_2 G Q n μ v1 v2 v3 := by
  show Wa G Y_X11_hasHopOn (ZI G Y_X11_hasHopOn Q) 0 0 n μ 2 [(0, .inr 399), (1, .inl v1), (2, .inl v2), (3, .inl v3)] []
  refine a_iload_n (k := 3) dX11_hasHopOn_2 rfl rfl ?_
  refine a_aload_n (k := 0) dX11_hasHopOn_3 rfl rfl ?_
  refine a_iload_n (k := 1) dX11_hasHopOn_4 rfl rfl ?_
  refine a_bipush dX11_hasHopOn_5 (by decide) (by decide) ?_
  refine k_X11_127 rfl dX11_hasHopOn_7 (Nat.le_of_ble_eq_true rfl) rfl (Nat.le_of_ble_eq_true rfl) (Nat.le_of_ble_eq_true rfl) (St_ho hg St_399) h (fun x1 n2 μ3 h => ?_)
  refine a_icmp_ge (tgt := 36) dX11_hasHopOn_10 (by decide) (fun c4 => ?_) (fun c4 => ?_)
  · replace h := h.1 c4
    refine a_iconst dX11_hasHopOn_36 (by decide) ?_
    exact a_zret dX11_hasHopOn_37 rfl (Nat.le_of_ble_eq_true rfl) (Nat.le_of_ble_eq_true rfl) (by decide) h
  · replace h := h.2 c4
    refine a_aload_n (k := 0) dX11_hasHopOn_13 rfl rfl ?_
    refine a_iload_n (k := 1) dX11_hasHopOn_14 rfl rfl ?_
    refine a_bipush dX11_hasHopOn_15 (by decide) (by decide) ?_
    refine a_iconst dX11_hasHopOn_17 (by decide) ?_
    refine a_iload_n (k := 3) dX11_hasHopOn_18 rfl rfl ?_
    obtain ⟨q5, h⟩ := h
    refine a_imul dX11_hasHopOn_19 q5 ?_
    obtain ⟨q6, h⟩ := h
    refine a_iadd dX11_hasHopOn_20 q6 ?_
    refine k_X11_127 rfl dX11_hasHopOn_21 (Nat.le_of_ble_eq_true rfl) rfl (Nat.le_of_ble_eq_true rfl) (Nat.le_of_ble_eq_true rfl) (St_ho hg St_399) h (fun x7 n8 μ9 h => ?_)
    refine a_iload_n (k := 2) dX11_hasHopOn_24 rfl rfl ?_
    refine a_icmp_ne (tgt := 30) dX11_hasHopOn_25 (by decide) (fun c10 => ?_) (fun c10 => ?_)
    · replace h := h.1 c10
      obtain ⟨q11, h⟩ := h
      refine b_iinc (L' := [(0, .inr 399), (1, .inl v1), (2, .inl v2), (3, .inl (v3 + 1))]) (k := 3) [1, 2, 3, 0] dX11_hasHopOn_30 rfl q11 (Nat.le_of_ble_eq_true rfl) rfl ?_
      refine a_goto (tgt := 2) dX11_hasHopOn_33 (by decide) ?_
      exact h
    · replace h := h.2 c10
      refine a_iconst dX11_hasHopOn_28 (by decide) ?_
      exact a_zret dX11_hasHopOn_29 rfl (Nat.le_of_ble_eq_true rfl) (Nat.le_of_ble_eq_true rfl) (by decide) h
abbrev B_X11_loses_16 (G : GT) (Q : Nat → Mem → Prop) (n : Nat) (μ : Mem) (v1 : Int) (v2 : Int) (v3 : Int) : Prop := Wa G Y_X11_loses (ZV G Y_X11_loses Q) 0 0 n μ 16 [(0, .inr 399), (1, .inl v1), (2, .inl v2), (3, .inl v3)] []
abbrev B_X11_loses_69 (G : GT) (Q : Nat → Mem → Prop) (n : Nat) (μ : Mem) (v1 : Int) (v2 : Int) (v3 : Int) : Prop := Wa G Y_X11_loses (ZV G Y_X11_loses Q) 0 0 n μ 69 [(0, .inr 399), (1, .inl v1), (2, .inl v2), (3, .inl v3)] []
abbrev B_X11_loses_70 (G : GT) (Q : Nat → Mem → Prop) (n : Nat) (μ : Mem) (v1 : Int) (v2 : Int) (v3 : Int) (u0 : Int) : Prop := Wa G Y_X11_loses (ZV G Y_X11_loses Q) 0 0 n μ 70 [(0, .inr 399), (1, .inl v1), (2, .inl v2), (3, .inl v3)] [.inl u0]
abbrev B_X11_loses_86 (G : GT) (Q : Nat → Mem → Prop) (n : Nat) (μ : Mem) (v1 : Int) (v2 : Int) (v3 : Int) (v4 : Int) : Prop := Wa G Y_X11_loses (ZV G Y_X11_loses Q) 0 0 n μ 86 [(0, .inr 399), (1, .inl v1), (2, .inl v2), (3, .inl v3), (4, .inl v4)] []
abbrev B_X11_loses_114 (G : GT) (Q : Nat → Mem → Prop) (n : Nat) (μ : Mem) (v1 : Int) (v2 : Int) (v3 : Int) (u0 : Int) (u1 : Int) (u2 : Int) : Prop := Wa G Y_X11_loses (ZV G Y_X11_loses Q) 0 0 n μ 114 [(0, .inr 399), (1, .inl v1), (2, .inl v2), (3, .inl v3)] [.inl u0, .inl u1, .inr u2]
theorem m_X11_loses {G : GT} (hg : gx G = FX) {n : Nat} {μ : Mem} {Q : Nat → Mem → Prop} {v1 : Int}  (h : (B_X11_loses_16 G Q n (up μ 402 1 (iOr (μ 402 1) (iShl 1 v1))) v1 0 0)) : CV G Y_X11_loses [.inr 399, .inl v1] n μ Q := by
  refine e_V (by decide) (Nat.le_of_ble_eq_true rfl) ?_
  show Wa G Y_X11_loses (ZV G Y_X11_loses Q) 0 0 n μ 0 [(0, .inr 399), (1, .inl v1)] []
  refine a_aload_n (k := 0) dX11_loses_0 rfl rfl ?_
  refine gs_X11_16 rfl dX11_loses_1 hg St_399 ?_
  refine a_iconst dX11_loses_4 (by decide) ?_
  refine a_dup2 dX11_loses_5 ?_
  refine a_iaload dX11_loses_6 (St_ho hg St_402) (by decide) (by decide) ?_
  refine a_iconst dX11_loses_7 (by decide) ?_
  refine a_iload_n (k := 1) dX11_loses_8 rfl rfl ?_
  refine a_ishl dX11_loses_9 ?_
  refine a_ior dX11_loses_10 ?_
  refine a_iastore dX11_loses_11 (St_ho hg St_402) (by decide) (by decide) (FX_put hg St_402 rfl) ?_
  refine a_iconst dX11_loses_12 (by decide) ?_
  refine b_istore_n (L' := [(0, .inr 399), (1, .inl v1), (2, .inl 0)]) [1, 2, 0] dX11_loses_13 rfl (Nat.le_of_ble_eq_true rfl) rfl ?_
  refine a_iconst dX11_loses_14 (by decide) ?_
  refine b_istore_n (L' := [(0, .inr 399), (1, .inl v1), (2, .inl 0), (3, .inl 0)]) [1, 2, 3, 0] dX11_loses_15 rfl (Nat.le_of_ble_eq_true rfl) rfl ?_
  exact h
theorem b_X11_loses_16 {G : GT} (hg : gx G = FX) {n : Nat} {μ : Mem} {Q : Nat → Mem → Prop} {v1 v2 v3 : Int}  (h : (((μ 402 2) ≤ v3 → (CV G Y_X11_plansAll [.inr 399, .inl v2] n μ (fun (n3 : Nat) (μ4 : Mem) => (Q n3 μ4)))) ∧ (¬ ((μ 402 2) ≤ v3) → (CI G Y_X11_its [.inr 399, .inl v3, .inl 7] n μ (fun (x5 : Int) (n6 : Nat) (μ7 : Mem) => ((¬ (x5 = v1) → (B_X11_loses_69 G Q n6 μ7 v1 v2 v3)) ∧ (x5 = v1 → (CI G Y_X11_its [.inr 399, .inl v3, .inl 8] n6 μ7 (fun (x9 : Int) (n10 : Nat) (μ11 : Mem) => (CI G Y_X11_its [.inr 399, .inl v3, .inl 0] n10 μ11 (fun (x12 : Int) (n13 : Nat) (μ14 : Mem) => (CI G Y_X11_ticks [.inr 399, .inl x12, .inl v1] n13 μ14 (fun (x15 : Int) (n16 : Nat) (μ17 : Mem) => ((inR (x9 + x15)) ∧ (((x9 + x15) ≤ (μ17 402 0) → (B_X11_loses_69 G Q n16 μ17 v1 v2 v3)) ∧ (¬ ((x9 + x15) ≤ (μ17 402 0)) → (B_X11_loses_70 G Q n16 μ17 v1 v2 v3 1))))))))))))))))) : B_X11_loses_16 G Q n μ v1 v2 v3 := by
  show Wa G Y_X11_loses (ZV G Y_X11_loses Q) 0 0 n μ 16 [(0, .inr 399), (1, .inl v1), (2, .inl v2), (3, .inl v3)] []
  refine a_iload_n (k := 3) dX11_loses_16 rfl rfl ?_
  refine a_aload_n (k := 0) dX11_loses_17 rfl rfl ?_
  refine gs_X11_16 rfl dX11_loses_18 hg St_399 ?_
  refine a_iconst dX11_loses_21 (by decide) ?_
  refine a_iaload dX11_loses_22 (St_ho hg St_402) (by decide) (by decide) ?_
  refine a_icmp_ge (tgt := 132) dX11_loses_23 (by decide) (fun c1 => ?_) (fun c1 => ?_)
  · replace h := h.1 c1
    refine a_aload_n (k := 0) dX11_loses_132 rfl rfl ?_
    refine a_iload_n (k := 2) dX11_loses_133 rfl rfl ?_
    refine k_X11_211 rfl dX11_loses_134 (Nat.le_of_ble_eq_true rfl) rfl (Nat.le_of_ble_eq_true rfl) (Nat.le_of_ble_eq_true rfl) (St_ho hg St_399) h (fun n3 μ4 h => ?_)
    exact a_ret dX11_loses_137 rfl (Nat.le_of_ble_eq_true rfl) (Nat.le_of_ble_eq_true rfl) h
  · replace h := h.2 c1
    refine a_aload_n (k := 0) dX11_loses_26 rfl rfl ?_
    refine a_iload_n (k := 3) dX11_loses_27 rfl rfl ?_
    refine a_bipush dX11_loses_28 (by decide) (by decide) ?_
    refine k_X11_127 rfl dX11_loses_30 (Nat.le_of_ble_eq_true rfl) rfl (Nat.le_of_ble_eq_true rfl) (Nat.le_of_ble_eq_true rfl) (St_ho hg St_399) h (fun x5 n6 μ7 h => ?_)
    refine a_iload_n (k := 1) dX11_loses_33 rfl rfl ?_
    refine a_icmp_ne (tgt := 69) dX11_loses_34 (by decide) (fun c8 => ?_) (fun c8 => ?_)
    · replace h := h.1 c8
      exact h
    · replace h := h.2 c8
      refine a_aload_n (k := 0) dX11_loses_37 rfl rfl ?_
      refine a_iload_n (k := 3) dX11_loses_38 rfl rfl ?_
      refine a_bipush dX11_loses_39 (by decide) (by decide) ?_
      refine k_X11_127 rfl dX11_loses_41 (Nat.le_of_ble_eq_true rfl) rfl (Nat.le_of_ble_eq_true rfl) (Nat.le_of_ble_eq_true rfl) (St_ho hg St_399) h (fun x9 n10 μ11 h => ?_)
      refine a_aload_n (k := 0) dX11_loses_44 rfl rfl ?_
      refine a_aload_n (k := 0) dX11_loses_45 rfl rfl ?_
      refine a_iload_n (k := 3) dX11_loses_46 rfl rfl ?_
      refine a_iconst dX11_loses_47 (by decide) ?_
      refine k_X11_127 rfl dX11_loses_48 (Nat.le_of_ble_eq_true rfl) rfl (Nat.le_of_ble_eq_true rfl) (Nat.le_of_ble_eq_true rfl) (St_ho hg St_399) h (fun x12 n13 μ14 h => ?_)
      refine a_iload_n (k := 1) dX11_loses_51 rfl rfl ?_
      refine k_X11_131 rfl dX11_loses_52 (Nat.le_of_ble_eq_true rfl) rfl (Nat.le_of_ble_eq_true rfl) (Nat.le_of_ble_eq_true rfl) (St_ho hg St_399) h (fun x15 n16 μ17 h => ?_)
      obtain ⟨q18, h⟩ := h
      refine a_iadd dX11_loses_55 q18 ?_
      refine a_aload_n (k := 0) dX11_loses_56 rfl rfl ?_
      refine gs_X11_16 rfl dX11_loses_57 hg St_399 ?_
      refine a_iconst dX11_loses_60 (by decide) ?_
      refine a_iaload dX11_loses_61 (St_ho hg St_402) (by decide) (by decide) ?_
      refine a_icmp_le (tgt := 69) dX11_loses_62 (by decide) (fun c19 => ?_) (fun c19 => ?_)
      · replace h := h.1 c19
        exact h
      · replace h := h.2 c19
        refine a_iconst dX11_loses_65 (by decide) ?_
        refine a_goto (tgt := 70) dX11_loses_66 (by decide) ?_
        exact h
theorem b_X11_loses_69 {G : GT} (hg : gx G = FX) {n : Nat} {μ : Mem} {Q : Nat → Mem → Prop} {v1 v2 v3 : Int}  (h : (B_X11_loses_70 G Q n μ v1 v2 v3 0)) : B_X11_loses_69 G Q n μ v1 v2 v3 := by
  show Wa G Y_X11_loses (ZV G Y_X11_loses Q) 0 0 n μ 69 [(0, .inr 399), (1, .inl v1), (2, .inl v2), (3, .inl v3)] []
  refine a_iconst dX11_loses_69 (by decide) ?_
  exact h
theorem b_X11_loses_70 {G : GT} (hg : gx G = FX) {n : Nat} {μ : Mem} {Q : Nat → Mem → Prop} {v1 v2 v3 u0 : Int}  (h : ((¬ (u0 = 0) → (B_X11_loses_86 G Q n μ v1 v2 v3 u0)) ∧ (u0 = 0 → (CI G Y_X11_hasHopOn [.inr 399, .inl v3, .inl v1] n μ (fun (x2 : Int) (n3 : Nat) (μ4 : Mem) => ((x2 = 0 → ((inR (v3 + 1)) ∧ (B_X11_loses_16 G Q n3 μ4 v1 v2 (v3 + 1)))) ∧ (¬ (x2 = 0) → (B_X11_loses_86 G Q n3 μ4 v1 v2 v3 u0)))))))) : B_X11_loses_70 G Q n μ v1 v2 v3 u0 := by
  show Wa G Y_X11_loses (ZV G Y_X11_loses Q) 0 0 n μ 70 [(0, .inr 399), (1, .inl v1), (2, .inl v2), (3, .inl v3)] [.inl u0]
  refine b_istore (L' := [(0, .inr 399), (1, .inl v1), (2, .inl v2), (3, .inl v3), (4, .inl u0)]) [1, 2, 3, 4, 0] dX11_loses_70 (Nat.le_of_ble_eq_true rfl) rfl ?_
  refine a_iload (k := 4) dX11_loses_72 rfl ?_
  refine a_if_ne (tgt := 86) dX11_loses_74 (by decide) (fun c1 => ?_) (fun c1 => ?_)
  · replace h := h.1 c1
    exact h
  · replace h := h.2 c1
    refine a_aload_n (k := 0) dX11_loses_77 rfl rfl ?_
    refine a_iload_n (k := 3) dX11_loses_78 rfl rfl ?_
    refine a_iload_n (k := 1) dX11_loses_79 rfl rfl ?_
    refine k_X11_223 rfl dX11_loses_80 (Nat.le_of_ble_eq_true rfl) rfl (Nat.le_of_ble_eq_true rfl) (Nat.le_of_ble_eq_true rfl) (St_ho hg St_399) h (fun x2 n3 μ4 h => ?_)
    refine a_if_eq (tgt := 126) dX11_loses_83 (by decide) (fun c5 => ?_) (fun c5 => ?_)
    · replace h := h.1 c5
      obtain ⟨q6, h⟩ := h
      refine b_iinc (L' := [(0, .inr 399), (1, .inl v1), (2, .inl v2), (3, .inl (v3 + 1)), (4, .inl u0)]) (k := 3) [1, 2, 3, 0, 4] dX11_loses_126 rfl q6 (Nat.le_of_ble_eq_true rfl) rfl ?_
      refine a_goto (tgt := 16) dX11_loses_129 (by decide) ?_
      refine a_sub [0, 1, 2, 3] rfl ?_
      exact h
    · replace h := h.2 c5
      exact h
theorem b_X11_loses_86 {G : GT} (hg : gx G = FX) {n : Nat} {μ : Mem} {Q : Nat → Mem → Prop} {v1 v2 v3 v4 : Int}  (h : (CI G Y_X11_at [.inl v3] n μ (fun (x1 : Int) (n2 : Nat) (μ3 : Mem) => ((inR (x1 + 7)) ∧ ((v4 = 0 → (CI G Y_X11_its [.inr 399, .inl v3, .inl 7] n2 μ3 (fun (x6 : Int) (n7 : Nat) (μ8 : Mem) => (B_X11_loses_114 G Q n7 μ8 v1 v2 v3 x6 (x1 + 7) 402)))) ∧ (¬ (v4 = 0) → (B_X11_loses_114 G Q n2 μ3 v1 v2 v3 (-9) (x1 + 7) 402))))))) : B_X11_loses_86 G Q n μ v1 v2 v3 v4 := by
  show Wa G Y_X11_loses (ZV G Y_X11_loses Q) 0 0 n μ 86 [(0, .inr 399), (1, .inl v1), (2, .inl v2), (3, .inl v3), (4, .inl v4)] []
  refine a_aload_n (k := 0) dX11_loses_86 rfl rfl ?_
  refine gs_X11_16 rfl dX11_loses_87 hg St_399 ?_
  refine a_iload_n (k := 3) dX11_loses_90 rfl rfl ?_
  refine k_X11_123 rfl dX11_loses_91 (Nat.le_of_ble_eq_true rfl) rfl (Nat.le_of_ble_eq_true rfl) (Nat.le_of_ble_eq_true rfl) h (fun x1 n2 μ3 h => ?_)
  refine a_bipush dX11_loses_94 (by decide) (by decide) ?_
  obtain ⟨q4, h⟩ := h
  refine a_iadd dX11_loses_96 q4 ?_
  refine a_iload (k := 4) dX11_loses_97 rfl ?_
  refine a_if_eq (tgt := 107) dX11_loses_99 (by decide) (fun c5 => ?_) (fun c5 => ?_)
  · replace h := h.1 c5
    refine a_aload_n (k := 0) dX11_loses_107 rfl rfl ?_
    refine a_iload_n (k := 3) dX11_loses_108 rfl rfl ?_
    refine a_bipush dX11_loses_109 (by decide) (by decide) ?_
    refine k_X11_127 rfl dX11_loses_111 (Nat.le_of_ble_eq_true rfl) rfl (Nat.le_of_ble_eq_true rfl) (Nat.le_of_ble_eq_true rfl) (St_ho hg St_399) h (fun x6 n7 μ8 h => ?_)
    refine a_sub [0, 1, 2, 3] rfl ?_
    exact h
  · replace h := h.2 c5
    refine a_bipush dX11_loses_102 (by decide) (by decide) ?_
    refine a_goto (tgt := 114) dX11_loses_104 (by decide) ?_
    refine a_sub [0, 1, 2, 3] rfl ?_
    exact h
theorem b_X11_loses_114 {G : GT} (hg : gx G = FX) {n : Nat} {μ : Mem} {Q : Nat → Mem → Prop} {v1 v2 v3 u0 u1 u2 : Int} {Nu2 : Nat} (ou2 : St u2 20 Nu2) (h : (((0 : Int) ≤ u1 ∧ u1 < (Nu2 : Int)) ∧ (CV G Y_X11_givesUp [.inr 399, .inl v3] n (up μ u2 u1 u0) (fun (n3 : Nat) (μ4 : Mem) => ((inR (v3 + 1)) ∧ (B_X11_loses_16 G Q n3 μ4 v1 (iOr v2 (iShl 1 v3)) (v3 + 1))))))) : B_X11_loses_114 G Q n μ v1 v2 v3 u0 u1 u2 := by
  show Wa G Y_X11_loses (ZV G Y_X11_loses Q) 0 0 n μ 114 [(0, .inr 399), (1, .inl v1), (2, .inl v2), (3, .inl v3)] [.inl u0, .inl u1, .inr u2]
  obtain ⟨q1, h⟩ := h
  refine a_iastore dX11_loses_114 (St_ho hg ou2) q1.1 q1.2 (FX_put hg ou2 rfl) ?_
  refine a_aload_n (k := 0) dX11_loses_115 rfl rfl ?_
  refine a_iload_n (k := 3) dX11_loses_116 rfl rfl ?_
  refine k_X11_176 rfl dX11_loses_117 (Nat.le_of_ble_eq_true rfl) rfl (Nat.le_of_ble_eq_true rfl) (Nat.le_of_ble_eq_true rfl) (St_ho hg St_399) h (fun n3 μ4 h => ?_)
  refine a_iload_n (k := 2) dX11_loses_120 rfl rfl ?_
  refine a_iconst dX11_loses_121 (by decide) ?_
  refine a_iload_n (k := 3) dX11_loses_122 rfl rfl ?_
  refine a_ishl dX11_loses_123 ?_
  refine a_ior dX11_loses_124 ?_
  refine b_istore_n (L' := [(0, .inr 399), (1, .inl v1), (2, .inl (iOr v2 (iShl 1 v3))), (3, .inl v3)]) [1, 2, 0, 3] dX11_loses_125 rfl (Nat.le_of_ble_eq_true rfl) rfl ?_
  obtain ⟨q5, h⟩ := h
  refine b_iinc (L' := [(0, .inr 399), (1, .inl v1), (2, .inl (iOr v2 (iShl 1 v3))), (3, .inl (v3 + 1))]) (k := 3) [1, 2, 3, 0] dX11_loses_126 rfl q5 (Nat.le_of_ble_eq_true rfl) rfl ?_
  refine a_goto (tgt := 16) dX11_loses_129 (by decide) ?_
  exact h
theorem m_X11_misses {G : GT} (hg : gx G = FX) {n : Nat} {μ : Mem} {Q : Int → Nat → Mem → Prop} {v1 : Int}  (h : (CI G Y_X11_isContact [.inr 399, .inl v1] n (up μ 399 0 0) (fun (x1 : Int) (n2 : Nat) (μ3 : Mem) => ((¬ (x1 = 0) → (CI G Y_X11_isMissed [.inr 399, .inl v1] n2 μ3 (fun (x5 : Int) (n6 : Nat) (μ7 : Mem) => ((x5 = 0 → (CV G Y_X11_notes [.inr 399] n6 μ7 (fun (n10 : Nat) (μ11 : Mem) => (CV G Y_X11_loses [.inr 399, .inl v1] n10 μ11 (fun (n13 : Nat) (μ14 : Mem) => (CI G Y_X11_countOf [.inr 399, .inl 0] n13 μ14 (fun (x15 : Int) (n16 : Nat) (μ17 : Mem) => (Q x15 n16 μ17)))))))) ∧ (¬ (x5 = 0) → (Q (-2) n6 μ7)))))) ∧ (x1 = 0 → (Q (-1) n2 μ3)))))) : CI G Y_X11_misses [.inr 399, .inl v1] n μ Q := by
  refine e_I (by decide) (Nat.le_of_ble_eq_true rfl) ?_
  show Wa G Y_X11_misses (ZI G Y_X11_misses Q) 0 0 n μ 0 [(0, .inr 399), (1, .inl v1)] []
  refine a_aload_n (k := 0) dX11_misses_0 rfl rfl ?_
  refine a_iconst dX11_misses_1 (by decide) ?_
  refine p_X11_62 rfl dX11_misses_2 (St_ho hg St_399) (FX_put hg St_399 rfl) ?_
  refine a_aload_n (k := 0) dX11_misses_5 rfl rfl ?_
  refine a_iload_n (k := 1) dX11_misses_6 rfl rfl ?_
  refine k_X11_117 rfl dX11_misses_7 (Nat.le_of_ble_eq_true rfl) rfl (Nat.le_of_ble_eq_true rfl) (Nat.le_of_ble_eq_true rfl) (St_ho hg St_399) h (fun x1 n2 μ3 h => ?_)
  refine a_if_ne (tgt := 15) dX11_misses_10 (by decide) (fun c4 => ?_) (fun c4 => ?_)
  · replace h := h.1 c4
    refine a_aload_n (k := 0) dX11_misses_15 rfl rfl ?_
    refine a_iload_n (k := 1) dX11_misses_16 rfl rfl ?_
    refine k_X11_120 rfl dX11_misses_17 (Nat.le_of_ble_eq_true rfl) rfl (Nat.le_of_ble_eq_true rfl) (Nat.le_of_ble_eq_true rfl) (St_ho hg St_399) h (fun x5 n6 μ7 h => ?_)
    refine a_if_eq (tgt := 26) dX11_misses_20 (by decide) (fun c8 => ?_) (fun c8 => ?_)
    · replace h := h.1 c8
      refine a_aload_n (k := 0) dX11_misses_26 rfl rfl ?_
      refine k_X11_208 rfl dX11_misses_27 (Nat.le_of_ble_eq_true rfl) rfl (Nat.le_of_ble_eq_true rfl) (Nat.le_of_ble_eq_true rfl) (St_ho hg St_399) h (fun n10 μ11 h => ?_)
      refine a_aload_n (k := 0) dX11_misses_30 rfl rfl ?_
      refine a_iload_n (k := 1) dX11_misses_31 rfl rfl ?_
      refine k_X11_226 rfl dX11_misses_32 (Nat.le_of_ble_eq_true rfl) rfl (Nat.le_of_ble_eq_true rfl) (Nat.le_of_ble_eq_true rfl) (St_ho hg St_399) h (fun n13 μ14 h => ?_)
      refine a_aload_n (k := 0) dX11_misses_35 rfl rfl ?_
      refine a_iconst dX11_misses_36 (by decide) ?_
      refine k_X11_229 rfl dX11_misses_37 (Nat.le_of_ble_eq_true rfl) rfl (Nat.le_of_ble_eq_true rfl) (Nat.le_of_ble_eq_true rfl) (St_ho hg St_399) h (fun x15 n16 μ17 h => ?_)
      exact a_iret dX11_misses_40 rfl (Nat.le_of_ble_eq_true rfl) (Nat.le_of_ble_eq_true rfl) h
    · replace h := h.2 c8
      refine a_bipush dX11_misses_23 (by decide) (by decide) ?_
      exact a_iret dX11_misses_25 rfl (Nat.le_of_ble_eq_true rfl) (Nat.le_of_ble_eq_true rfl) h
  · replace h := h.2 c4
    refine a_iconst dX11_misses_13 (by decide) ?_
    exact a_iret dX11_misses_14 rfl (Nat.le_of_ble_eq_true rfl) (Nat.le_of_ble_eq_true rfl) h
abbrev B_X11_finds_48 (G : GT) (Q : Int → Nat → Mem → Prop) (n : Nat) (μ : Mem) (v2 : Int) (v3 : Int) : Prop := Wa G Y_X11_finds (ZI G Y_X11_finds Q) 0 0 n μ 48 [(0, .inr 399), (2, .inl v2), (3, .inl v3)] []
theorem m_X11_finds {G : GT} (hg : gx G = FX) {n : Nat} {μ : Mem} {Q : Int → Nat → Mem → Prop} {v1 : Int}  (h : (CI G Y_X11_isContact [.inr 399, .inl v1] n (up μ 399 0 0) (fun (x1 : Int) (n2 : Nat) (μ3 : Mem) => ((¬ (x1 = 0) → (CI G Y_X11_isMissed [.inr 399, .inl v1] n2 μ3 (fun (x5 : Int) (n6 : Nat) (μ7 : Mem) => ((¬ (x5 = 0) → (CV G Y_X11_notes [.inr 399] n6 μ7 (fun (n10 : Nat) (μ11 : Mem) => (B_X11_finds_48 G Q n10 (up μ11 402 1 (iAnd (μ11 402 1) (iXor (iShl 1 v1) (-1)))) 0 0)))) ∧ (x5 = 0 → (Q (-2) n6 μ7)))))) ∧ (x1 = 0 → (Q (-1) n2 μ3)))))) : CI G Y_X11_finds [.inr 399, .inl v1] n μ Q := by
  refine e_I (by decide) (Nat.le_of_ble_eq_true rfl) ?_
  show Wa G Y_X11_finds (ZI G Y_X11_finds Q) 0 0 n μ 0 [(0, .inr 399), (1, .inl v1)] []
  refine a_aload_n (k := 0) dX11_finds_0 rfl rfl ?_
  refine a_iconst dX11_finds_1 (by decide) ?_
  refine p_X11_62 rfl dX11_finds_2 (St_ho hg St_399) (FX_put hg St_399 rfl) ?_
  refine a_aload_n (k := 0) dX11_finds_5 rfl rfl ?_
  refine a_iload_n (k := 1) dX11_finds_6 rfl rfl ?_
  refine k_X11_117 rfl dX11_finds_7 (Nat.le_of_ble_eq_true rfl) rfl (Nat.le_of_ble_eq_true rfl) (Nat.le_of_ble_eq_true rfl) (St_ho hg St_399) h (fun x1 n2 μ3 h => ?_)
  refine a_if_ne (tgt := 15) dX11_finds_10 (by decide) (fun c4 => ?_) (fun c4 => ?_)
  · replace h := h.1 c4
    refine a_aload_n (k := 0) dX11_finds_15 rfl rfl ?_
    refine a_iload_n (k := 1) dX11_finds_16 rfl rfl ?_
    refine k_X11_120 rfl dX11_finds_17 (Nat.le_of_ble_eq_true rfl) rfl (Nat.le_of_ble_eq_true rfl) (Nat.le_of_ble_eq_true rfl) (St_ho hg St_399) h (fun x5 n6 μ7 h => ?_)
    refine a_if_ne (tgt := 26) dX11_finds_20 (by decide) (fun c8 => ?_) (fun c8 => ?_)
    · replace h := h.1 c8
      refine a_aload_n (k := 0) dX11_finds_26 rfl rfl ?_
      refine k_X11_208 rfl dX11_finds_27 (Nat.le_of_ble_eq_true rfl) rfl (Nat.le_of_ble_eq_true rfl) (Nat.le_of_ble_eq_true rfl) (St_ho hg St_399) h (fun n10 μ11 h => ?_)
      refine a_aload_n (k := 0) dX11_finds_30 rfl rfl ?_
      refine gs_X11_16 rfl dX11_finds_31 hg St_399 ?_
      refine a_iconst dX11_finds_34 (by decide) ?_
      refine a_dup2 dX11_finds_35 ?_
      refine a_iaload dX11_finds_36 (St_ho hg St_402) (by decide) (by decide) ?_
      refine a_iconst dX11_finds_37 (by decide) ?_
      refine a_iload_n (k := 1) dX11_finds_38 rfl rfl ?_
      refine a_ishl dX11_finds_39 ?_
      refine a_iconst dX11_finds_40 (by decide) ?_
      refine a_ixor dX11_finds_41 ?_
      refine a_iand dX11_finds_42 ?_
      refine a_iastore dX11_finds_43 (St_ho hg St_402) (by decide) (by decide) (FX_put hg St_402 rfl) ?_
      refine a_iconst dX11_finds_44 (by decide) ?_
      refine b_istore_n (L' := [(0, .inr 399), (1, .inl v1), (2, .inl 0)]) [1, 2, 0] dX11_finds_45 rfl (Nat.le_of_ble_eq_true rfl) rfl ?_
      refine a_iconst dX11_finds_46 (by decide) ?_
      refine b_istore_n (L' := [(0, .inr 399), (1, .inl v1), (2, .inl 0), (3, .inl 0)]) [1, 2, 3, 0] dX11_finds_47 rfl (Nat.le_of_ble_eq_true rfl) rfl ?_
      refine a_sub [0, 2, 3] rfl ?_
      exact h
    · replace h := h.2 c8
      refine a_bipush dX11_finds_23 (by decide) (by decide) ?_
      exact a_iret dX11_finds_25 rfl (Nat.le_of_ble_eq_true rfl) (Nat.le_of_ble_eq_true rfl) h
  · replace h := h.2 c4
    refine a_iconst dX11_finds_13 (by decide) ?_
    exact a_iret dX11_finds_14 rfl (Nat.le_of_ble_eq_true rfl) (Nat.le_of_ble_eq_true rfl) h
theorem b_X11_finds_48 {G : GT} (hg : gx G = FX) {n : Nat} {μ : Mem} {Q : Int → Nat → Mem → Prop} {v2 v3 : Int}  (h : (((μ 402 2) ≤ v3 → (CV G Y_X11_plansAll [.inr 399, .inl v2] n μ (fun (n3 : Nat) (μ4 : Mem) => (CI G Y_X11_countOf [.inr 399, .inl 0] n3 μ4 (fun (x5 : Int) (n6 : Nat) (μ7 : Mem) => (Q x5 n6 μ7)))))) ∧ (¬ ((μ 402 2) ≤ v3) → (CI G Y_X11_stateOf [.inr 399, .inl v3] n μ (fun (x8 : Int) (n9 : Nat) (μ10 : Mem) => ((¬ (x8 = 0) → ((inR (v3 + 1)) ∧ (B_X11_finds_48 G Q n9 μ10 (iOr v2 0) (v3 + 1)))) ∧ (x8 = 0 → ((inR (v3 + 1)) ∧ (B_X11_finds_48 G Q n9 μ10 (iOr v2 (iShl 1 v3)) (v3 + 1)))))))))) : B_X11_finds_48 G Q n μ v2 v3 := by
  show Wa G Y_X11_finds (ZI G Y_X11_finds Q) 0 0 n μ 48 [(0, .inr 399), (2, .inl v2), (3, .inl v3)] []
  refine a_iload_n (k := 2) dX11_finds_48 rfl rfl ?_
  refine a_aload_n (k := 0) dX11_finds_49 rfl rfl ?_
  refine gs_X11_16 rfl dX11_finds_50 hg St_399 ?_
  refine a_iconst dX11_finds_53 (by decide) ?_
  refine a_iaload dX11_finds_54 (St_ho hg St_402) (by decide) (by decide) ?_
  refine a_icmp_ge (tgt := 82) dX11_finds_55 (by decide) (fun c1 => ?_) (fun c1 => ?_)
  · replace h := h.1 c1
    refine a_aload_n (k := 0) dX11_finds_82 rfl rfl ?_
    refine a_iload_n (k := 1) dX11_finds_83 rfl rfl ?_
    refine k_X11_211 rfl dX11_finds_84 (Nat.le_of_ble_eq_true rfl) rfl (Nat.le_of_ble_eq_true rfl) (Nat.le_of_ble_eq_true rfl) (St_ho hg St_399) h (fun n3 μ4 h => ?_)
    refine a_aload_n (k := 0) dX11_finds_87 rfl rfl ?_
    refine a_iconst dX11_finds_88 (by decide) ?_
    refine k_X11_229 rfl dX11_finds_89 (Nat.le_of_ble_eq_true rfl) rfl (Nat.le_of_ble_eq_true rfl) (Nat.le_of_ble_eq_true rfl) (St_ho hg St_399) h (fun x5 n6 μ7 h => ?_)
    exact a_iret dX11_finds_92 rfl (Nat.le_of_ble_eq_true rfl) (Nat.le_of_ble_eq_true rfl) h
  · replace h := h.2 c1
    refine a_iload_n (k := 1) dX11_finds_58 rfl rfl ?_
    refine a_aload_n (k := 0) dX11_finds_59 rfl rfl ?_
    refine a_iload_n (k := 2) dX11_finds_60 rfl rfl ?_
    refine k_X11_140 rfl dX11_finds_61 (Nat.le_of_ble_eq_true rfl) rfl (Nat.le_of_ble_eq_true rfl) (Nat.le_of_ble_eq_true rfl) (St_ho hg St_399) h (fun x8 n9 μ10 h => ?_)
    refine a_if_ne (tgt := 73) dX11_finds_64 (by decide) (fun c11 => ?_) (fun c11 => ?_)
    · replace h := h.1 c11
      refine a_iconst dX11_finds_73 (by decide) ?_
      refine a_ior dX11_finds_74 ?_
      refine b_istore_n (L' := [(0, .inr 399), (2, .inl (iOr v2 0)), (3, .inl v3)]) [1, 0, 2] dX11_finds_75 rfl (Nat.le_of_ble_eq_true rfl) rfl ?_
      obtain ⟨q12, h⟩ := h
      refine b_iinc (L' := [(0, .inr 399), (2, .inl (iOr v2 0)), (3, .inl (v3 + 1))]) (k := 2) [1, 2, 0] dX11_finds_76 rfl q12 (Nat.le_of_ble_eq_true rfl) rfl ?_
      refine a_goto (tgt := 48) dX11_finds_79 (by decide) ?_
      exact h
    · replace h := h.2 c11
      refine a_iconst dX11_finds_67 (by decide) ?_
      refine a_iload_n (k := 2) dX11_finds_68 rfl rfl ?_
      refine a_ishl dX11_finds_69 ?_
      refine a_goto (tgt := 74) dX11_finds_70 (by decide) ?_
      refine a_ior dX11_finds_74 ?_
      refine b_istore_n (L' := [(0, .inr 399), (2, .inl (iOr v2 (iShl 1 v3))), (3, .inl v3)]) [1, 0, 2] dX11_finds_75 rfl (Nat.le_of_ble_eq_true rfl) rfl ?_
      obtain ⟨q13, h⟩ := h
      refine b_iinc (L' := [(0, .inr 399), (2, .inl (iOr v2 (iShl 1 v3))), (3, .inl (v3 + 1))]) (k := 2) [1, 2, 0] dX11_finds_76 rfl q13 (Nat.le_of_ble_eq_true rfl) rfl ?_
      refine a_goto (tgt := 48) dX11_finds_79 (by decide) ?_
      exact h
theorem m_X11_undo {G : GT} (hg : gx G = FX) {n : Nat} {μ : Mem} {Q : Int → Nat → Mem → Prop}  (h : ((¬ (((up μ 399 0 0) 399 8) = 0) → ((inR (((up μ 399 0 0) 399 8) - 1)) ∧ ((inR (163 * ((up (up μ 399 0 0) 399 8 (((up μ 399 0 0) 399 8) - 1)) 399 8))) ∧ (CV G Y_X11_copies [.inr 399, .inr 403, .inr 402, .inl (163 * ((up (up μ 399 0 0) 399 8 (((up μ 399 0 0) 399 8) - 1)) 399 8)), .inl 0] n (up (up μ 399 0 0) 399 8 (((up μ 399 0 0) 399 8) - 1)) (fun (n5 : Nat) (μ6 : Mem) => (Q (μ6 399 8) n5 μ6)))))) ∧ (((up μ 399 0 0) 399 8) = 0 → (Q (-2) n (up μ 399 0 0))))) : CI G Y_X11_undo [.inr 399] n μ Q := by
  refine e_I (by decide) (Nat.le_of_ble_eq_true rfl) ?_
  show Wa G Y_X11_undo (ZI G Y_X11_undo Q) 0 0 n μ 0 [(0, .inr 399)] []
  refine a_aload_n (k := 0) dX11_undo_0 rfl rfl ?_
  refine a_iconst dX11_undo_1 (by decide) ?_
  refine p_X11_62 rfl dX11_undo_2 (St_ho hg St_399) (FX_put hg St_399 rfl) ?_
  refine a_aload_n (k := 0) dX11_undo_5 rfl rfl ?_
  refine g_X11_104 rfl dX11_undo_6 (St_ho hg St_399) ?_
  refine a_if_ne (tgt := 15) dX11_undo_9 (by decide) (fun c1 => ?_) (fun c1 => ?_)
  · replace h := h.1 c1
    refine a_aload_n (k := 0) dX11_undo_15 rfl rfl ?_
    refine a_dup dX11_undo_16 ?_
    refine g_X11_104 rfl dX11_undo_17 (St_ho hg St_399) ?_
    refine a_iconst dX11_undo_20 (by decide) ?_
    obtain ⟨q2, h⟩ := h
    refine a_isub dX11_undo_21 q2 ?_
    refine p_X11_104 rfl dX11_undo_22 (St_ho hg St_399) (FX_put hg St_399 rfl) ?_
    refine a_aload_n (k := 0) dX11_undo_25 rfl rfl ?_
    refine a_aload_n (k := 0) dX11_undo_26 rfl rfl ?_
    refine gs_X11_19 rfl dX11_undo_27 hg St_399 ?_
    refine a_aload_n (k := 0) dX11_undo_30 rfl rfl ?_
    refine gs_X11_16 rfl dX11_undo_31 hg St_399 ?_
    refine a_sipush dX11_undo_34 (by decide) (by decide) ?_
    refine a_aload_n (k := 0) dX11_undo_37 rfl rfl ?_
    refine g_X11_104 rfl dX11_undo_38 (St_ho hg St_399) ?_
    obtain ⟨q3, h⟩ := h
    refine a_imul dX11_undo_41 q3 ?_
    refine a_iconst dX11_undo_42 (by decide) ?_
    refine k_X11_201 rfl dX11_undo_43 (Nat.le_of_ble_eq_true rfl) rfl (Nat.le_of_ble_eq_true rfl) (Nat.le_of_ble_eq_true rfl) (St_ho hg St_399) h (fun n5 μ6 h => ?_)
    refine a_aload_n (k := 0) dX11_undo_46 rfl rfl ?_
    refine g_X11_104 rfl dX11_undo_47 (St_ho hg St_399) ?_
    exact a_iret dX11_undo_50 rfl (Nat.le_of_ble_eq_true rfl) (Nat.le_of_ble_eq_true rfl) h
  · replace h := h.2 c1
    refine a_bipush dX11_undo_12 (by decide) (by decide) ?_
    exact a_iret dX11_undo_14 rfl (Nat.le_of_ble_eq_true rfl) (Nat.le_of_ble_eq_true rfl) h
theorem m_X11_bundle {G : GT} (hg : gx G = FX) {n : Nat} {μ : Mem} {Q : Int → Nat → Mem → Prop} {v1 v2 : Int}  (h : (CI G Y_X11_isBundle [.inr 399, .inl v1] n (up μ 399 0 0) (fun (x1 : Int) (n2 : Nat) (μ3 : Mem) => ((x1 = 0 → (Q (-1) n2 μ3)) ∧ (¬ (x1 = 0) → (CI G Y_X11_in [.inl v2, .inl 0, .inl 8] n2 μ3 (fun (x5 : Int) (n6 : Nat) (μ7 : Mem) => ((¬ (x5 = 0) → (CI G Y_X11_stateOf [.inr 399, .inl v1] n6 μ7 (fun (x9 : Int) (n10 : Nat) (μ11 : Mem) => (((v2 < 0 ∨ 7 < v2) → ((¬ (x9 = 0) → (Q (-9) n10 μ11)) ∧ (x9 = 0 → (CI G Y_X11_its [.inr 399, .inl v1, .inl 6] n10 μ11 (fun (x16 : Int) (n17 : Nat) (μ18 : Mem) => (Q x16 n17 μ18)))))) ∧ (v2 = 0 → (Q x9 n10 μ11)) ∧ (v2 = 1 → (CI G Y_X11_its [.inr 399, .inl v1, .inl 4] n10 μ11 (fun (x19 : Int) (n20 : Nat) (μ21 : Mem) => (Q x19 n20 μ21)))) ∧ (v2 = 2 → (CI G Y_X11_lastEnd [.inr 399, .inl v1] n10 μ11 (fun (x22 : Int) (n23 : Nat) (μ24 : Mem) => (Q x22 n23 μ24)))) ∧ (v2 = 3 → (CI G Y_X11_its [.inr 399, .inl v1, .inl 9] n10 μ11 (fun (x25 : Int) (n26 : Nat) (μ27 : Mem) => (CI G Y_X11_isOn [.inr 399, .inl v1] n26 μ27 (fun (x28 : Int) (n29 : Nat) (μ30 : Mem) => ((x28 = 0 → ((inR (x25 + 0)) ∧ (Q (x25 + 0) n29 μ30))) ∧ (¬ (x28 = 0) → ((inR (x25 + 1)) ∧ (Q (x25 + 1) n29 μ30))))))))) ∧ (v2 = 4 → (CI G Y_X11_its [.inr 399, .inl v1, .inl 3] n10 μ11 (fun (x34 : Int) (n35 : Nat) (μ36 : Mem) => (Q x34 n35 μ36)))) ∧ (v2 = 5 → (CI G Y_X11_its [.inr 399, .inl v1, .inl 0] n10 μ11 (fun (x37 : Int) (n38 : Nat) (μ39 : Mem) => (Q x37 n38 μ39)))) ∧ (v2 = 6 → (CI G Y_X11_its [.inr 399, .inl v1, .inl 2] n10 μ11 (fun (x40 : Int) (n41 : Nat) (μ42 : Mem) => (Q x40 n41 μ42)))) ∧ (v2 = 7 → (CI G Y_X11_its [.inr 399, .inl v1, .inl 1] n10 μ11 (fun (x43 : Int) (n44 : Nat) (μ45 : Mem) => (Q x43 n44 μ45)))))))) ∧ (x5 = 0 → (Q (-1) n6 μ7)))))))))) : CI G Y_X11_bundle [.inr 399, .inl v1, .inl v2] n μ Q := by
  refine e_I (by decide) (Nat.le_of_ble_eq_true rfl) ?_
  show Wa G Y_X11_bundle (ZI G Y_X11_bundle Q) 0 0 n μ 0 [(0, .inr 399), (1, .inl v1), (2, .inl v2)] []
  refine a_aload_n (k := 0) dX11_bundle_0 rfl rfl ?_
  refine a_iconst dX11_bundle_1 (by decide) ?_
  refine p_X11_62 rfl dX11_bundle_2 (St_ho hg St_399) (FX_put hg St_399 rfl) ?_
  refine a_aload_n (k := 0) dX11_bundle_5 rfl rfl ?_
  refine a_iload_n (k := 1) dX11_bundle_6 rfl rfl ?_
  refine k_X11_217 rfl dX11_bundle_7 (Nat.le_of_ble_eq_true rfl) rfl (Nat.le_of_ble_eq_true rfl) (Nat.le_of_ble_eq_true rfl) (St_ho hg St_399) h (fun x1 n2 μ3 h => ?_)
  refine a_if_eq (tgt := 23) dX11_bundle_10 (by decide) (fun c4 => ?_) (fun c4 => ?_)
  · replace h := h.1 c4
    refine a_iconst dX11_bundle_23 (by decide) ?_
    exact a_iret dX11_bundle_24 rfl (Nat.le_of_ble_eq_true rfl) (Nat.le_of_ble_eq_true rfl) h
  · replace h := h.2 c4
    refine a_iload_n (k := 2) dX11_bundle_13 rfl rfl ?_
    refine a_iconst dX11_bundle_14 (by decide) ?_
    refine a_bipush dX11_bundle_15 (by decide) (by decide) ?_
    refine k_X11_69 rfl dX11_bundle_17 (Nat.le_of_ble_eq_true rfl) rfl (Nat.le_of_ble_eq_true rfl) (Nat.le_of_ble_eq_true rfl) h (fun x5 n6 μ7 h => ?_)
    refine a_if_ne (tgt := 25) dX11_bundle_20 (by decide) (fun c8 => ?_) (fun c8 => ?_)
    · replace h := h.1 c8
      refine a_aload_n (k := 0) dX11_bundle_25 rfl rfl ?_
      refine a_iload_n (k := 1) dX11_bundle_26 rfl rfl ?_
      refine k_X11_140 rfl dX11_bundle_27 (Nat.le_of_ble_eq_true rfl) rfl (Nat.le_of_ble_eq_true rfl) (Nat.le_of_ble_eq_true rfl) (St_ho hg St_399) h (fun x9 n10 μ11 h => ?_)
      refine b_istore_n (L' := [(0, .inr 399), (1, .inl v1), (2, .inl v2), (3, .inl x9)]) [1, 2, 3, 0] dX11_bundle_30 rfl (Nat.le_of_ble_eq_true rfl) rfl ?_
      refine a_iload_n (k := 2) dX11_bundle_31 rfl rfl ?_
      refine a_table (tgt := 145) dX11_bundle_32 (by decide) (fun c12 c13 => ?_) (fun c12 => ?_)
      · rcases (show v2 = 0 ∨ v2 = 1 ∨ v2 = 2 ∨ v2 = 3 ∨ v2 = 4 ∨ v2 = 5 ∨ v2 = 6 ∨ v2 = 7 by omega) with e14 | e14 | e14 | e14 | e14 | e14 | e14 | e14
        · replace h := h.2.1 e14
          refine ⟨48, 80, by rw [e14]; rfl, by decide, ?_⟩
          refine a_iload_n (k := 3) dX11_bundle_80 rfl rfl ?_
          exact a_iret dX11_bundle_81 rfl (Nat.le_of_ble_eq_true rfl) (Nat.le_of_ble_eq_true rfl) h
        · replace h := h.2.2.1 e14
          refine ⟨50, 82, by rw [e14]; rfl, by decide, ?_⟩
          refine a_aload_n (k := 0) dX11_bundle_82 rfl rfl ?_
          refine a_iload_n (k := 1) dX11_bundle_83 rfl rfl ?_
          refine a_iconst dX11_bundle_84 (by decide) ?_
          refine k_X11_127 rfl dX11_bundle_85 (Nat.le_of_ble_eq_true rfl) rfl (Nat.le_of_ble_eq_true rfl) (Nat.le_of_ble_eq_true rfl) (St_ho hg St_399) h (fun x19 n20 μ21 h => ?_)
          exact a_iret dX11_bundle_88 rfl (Nat.le_of_ble_eq_true rfl) (Nat.le_of_ble_eq_true rfl) h
        · replace h := h.2.2.2.1 e14
          refine ⟨57, 89, by rw [e14]; rfl, by decide, ?_⟩
          refine a_aload_n (k := 0) dX11_bundle_89 rfl rfl ?_
          refine a_iload_n (k := 1) dX11_bundle_90 rfl rfl ?_
          refine k_X11_214 rfl dX11_bundle_91 (Nat.le_of_ble_eq_true rfl) rfl (Nat.le_of_ble_eq_true rfl) (Nat.le_of_ble_eq_true rfl) (St_ho hg St_399) h (fun x22 n23 μ24 h => ?_)
          exact a_iret dX11_bundle_94 rfl (Nat.le_of_ble_eq_true rfl) (Nat.le_of_ble_eq_true rfl) h
        · replace h := h.2.2.2.2.1 e14
          refine ⟨63, 95, by rw [e14]; rfl, by decide, ?_⟩
          refine a_aload_n (k := 0) dX11_bundle_95 rfl rfl ?_
          refine a_iload_n (k := 1) dX11_bundle_96 rfl rfl ?_
          refine a_bipush dX11_bundle_97 (by decide) (by decide) ?_
          refine k_X11_127 rfl dX11_bundle_99 (Nat.le_of_ble_eq_true rfl) rfl (Nat.le_of_ble_eq_true rfl) (Nat.le_of_ble_eq_true rfl) (St_ho hg St_399) h (fun x25 n26 μ27 h => ?_)
          refine a_aload_n (k := 0) dX11_bundle_102 rfl rfl ?_
          refine a_iload_n (k := 1) dX11_bundle_103 rfl rfl ?_
          refine k_X11_134 rfl dX11_bundle_104 (Nat.le_of_ble_eq_true rfl) rfl (Nat.le_of_ble_eq_true rfl) (Nat.le_of_ble_eq_true rfl) (St_ho hg St_399) h (fun x28 n29 μ30 h => ?_)
          refine a_if_eq (tgt := 114) dX11_bundle_107 (by decide) (fun c31 => ?_) (fun c31 => ?_)
          · replace h := h.1 c31
            refine a_iconst dX11_bundle_114 (by decide) ?_
            obtain ⟨q32, h⟩ := h
            refine a_iadd dX11_bundle_115 q32 ?_
            exact a_iret dX11_bundle_116 rfl (Nat.le_of_ble_eq_true rfl) (Nat.le_of_ble_eq_true rfl) h
          · replace h := h.2 c31
            refine a_iconst dX11_bundle_110 (by decide) ?_
            refine a_goto (tgt := 115) dX11_bundle_111 (by decide) ?_
            obtain ⟨q33, h⟩ := h
            refine a_iadd dX11_bundle_115 q33 ?_
            exact a_iret dX11_bundle_116 rfl (Nat.le_of_ble_eq_true rfl) (Nat.le_of_ble_eq_true rfl) h
        · replace h := h.2.2.2.2.2.1 e14
          refine ⟨85, 117, by rw [e14]; rfl, by decide, ?_⟩
          refine a_aload_n (k := 0) dX11_bundle_117 rfl rfl ?_
          refine a_iload_n (k := 1) dX11_bundle_118 rfl rfl ?_
          refine a_iconst dX11_bundle_119 (by decide) ?_
          refine k_X11_127 rfl dX11_bundle_120 (Nat.le_of_ble_eq_true rfl) rfl (Nat.le_of_ble_eq_true rfl) (Nat.le_of_ble_eq_true rfl) (St_ho hg St_399) h (fun x34 n35 μ36 h => ?_)
          exact a_iret dX11_bundle_123 rfl (Nat.le_of_ble_eq_true rfl) (Nat.le_of_ble_eq_true rfl) h
        · replace h := h.2.2.2.2.2.2.1 e14
          refine ⟨92, 124, by rw [e14]; rfl, by decide, ?_⟩
          refine a_aload_n (k := 0) dX11_bundle_124 rfl rfl ?_
          refine a_iload_n (k := 1) dX11_bundle_125 rfl rfl ?_
          refine a_iconst dX11_bundle_126 (by decide) ?_
          refine k_X11_127 rfl dX11_bundle_127 (Nat.le_of_ble_eq_true rfl) rfl (Nat.le_of_ble_eq_true rfl) (Nat.le_of_ble_eq_true rfl) (St_ho hg St_399) h (fun x37 n38 μ39 h => ?_)
          exact a_iret dX11_bundle_130 rfl (Nat.le_of_ble_eq_true rfl) (Nat.le_of_ble_eq_true rfl) h
        · replace h := h.2.2.2.2.2.2.2.1 e14
          refine ⟨99, 131, by rw [e14]; rfl, by decide, ?_⟩
          refine a_aload_n (k := 0) dX11_bundle_131 rfl rfl ?_
          refine a_iload_n (k := 1) dX11_bundle_132 rfl rfl ?_
          refine a_iconst dX11_bundle_133 (by decide) ?_
          refine k_X11_127 rfl dX11_bundle_134 (Nat.le_of_ble_eq_true rfl) rfl (Nat.le_of_ble_eq_true rfl) (Nat.le_of_ble_eq_true rfl) (St_ho hg St_399) h (fun x40 n41 μ42 h => ?_)
          exact a_iret dX11_bundle_137 rfl (Nat.le_of_ble_eq_true rfl) (Nat.le_of_ble_eq_true rfl) h
        · replace h := h.2.2.2.2.2.2.2.2 e14
          refine ⟨106, 138, by rw [e14]; rfl, by decide, ?_⟩
          refine a_aload_n (k := 0) dX11_bundle_138 rfl rfl ?_
          refine a_iload_n (k := 1) dX11_bundle_139 rfl rfl ?_
          refine a_iconst dX11_bundle_140 (by decide) ?_
          refine k_X11_127 rfl dX11_bundle_141 (Nat.le_of_ble_eq_true rfl) rfl (Nat.le_of_ble_eq_true rfl) (Nat.le_of_ble_eq_true rfl) (St_ho hg St_399) h (fun x43 n44 μ45 h => ?_)
          exact a_iret dX11_bundle_144 rfl (Nat.le_of_ble_eq_true rfl) (Nat.le_of_ble_eq_true rfl) h
      · replace h := h.1 c12
        refine a_iload_n (k := 3) dX11_bundle_145 rfl rfl ?_
        refine a_if_ne (tgt := 159) dX11_bundle_146 (by decide) (fun c15 => ?_) (fun c15 => ?_)
        · replace h := h.1 c15
          refine a_bipush dX11_bundle_159 (by decide) (by decide) ?_
          exact a_iret dX11_bundle_161 rfl (Nat.le_of_ble_eq_true rfl) (Nat.le_of_ble_eq_true rfl) h
        · replace h := h.2 c15
          refine a_aload_n (k := 0) dX11_bundle_149 rfl rfl ?_
          refine a_iload_n (k := 1) dX11_bundle_150 rfl rfl ?_
          refine a_bipush dX11_bundle_151 (by decide) (by decide) ?_
          refine k_X11_127 rfl dX11_bundle_153 (Nat.le_of_ble_eq_true rfl) rfl (Nat.le_of_ble_eq_true rfl) (Nat.le_of_ble_eq_true rfl) (St_ho hg St_399) h (fun x16 n17 μ18 h => ?_)
          refine a_goto (tgt := 161) dX11_bundle_156 (by decide) ?_
          exact a_iret dX11_bundle_161 rfl (Nat.le_of_ble_eq_true rfl) (Nat.le_of_ble_eq_true rfl) h
    · replace h := h.2 c8
      refine a_iconst dX11_bundle_23 (by decide) ?_
      exact a_iret dX11_bundle_24 rfl (Nat.le_of_ble_eq_true rfl) (Nat.le_of_ble_eq_true rfl) h
abbrev B_X11_hop_50 (G : GT) (Q : Int → Nat → Mem → Prop) (n : Nat) (μ : Mem) (v1 : Int) (v2 : Int) (v3 : Int) : Prop := Wa G Y_X11_hop (ZI G Y_X11_hop Q) 0 0 n μ 50 [(0, .inr 399), (1, .inl v1), (2, .inl v2), (3, .inl v3)] []
abbrev B_X11_hop_65 (G : GT) (Q : Int → Nat → Mem → Prop) (n : Nat) (μ : Mem) (v1 : Int) (v3 : Int) (u0 : Int) : Prop := Wa G Y_X11_hop (ZI G Y_X11_hop Q) 0 0 n μ 65 [(0, .inr 399), (1, .inl v1), (3, .inl v3)] [.inl u0]
theorem m_X11_hop {G : GT} (hg : gx G = FX) {n : Nat} {μ : Mem} {Q : Int → Nat → Mem → Prop} {v1 v2 v3 : Int}  (h : (CI G Y_X11_isBundle [.inr 399, .inl v1] n (up μ 399 0 0) (fun (x1 : Int) (n2 : Nat) (μ3 : Mem) => ((x1 = 0 → (Q (-1) n2 μ3)) ∧ (¬ (x1 = 0) → ((v2 < 0 → (Q (-1) n2 μ3)) ∧ (¬ (v2 < 0) → (CI G Y_X11_in [.inl v3, .inl 0, .inl 1] n2 μ3 (fun (x6 : Int) (n7 : Nat) (μ8 : Mem) => ((¬ (x6 = 0) → (CI G Y_X11_isOn [.inr 399, .inl v1] n7 μ8 (fun (x10 : Int) (n11 : Nat) (μ12 : Mem) => ((x10 = 0 → (B_X11_hop_50 G Q n11 μ12 v1 v2 v3)) ∧ (¬ (x10 = 0) → ((¬ (v2 = 0) → (B_X11_hop_50 G Q n11 μ12 v1 v2 v3)) ∧ (v2 = 0 → ((inR (7 + v3)) ∧ (CI G Y_X11_its [.inr 399, .inl v1, .inl (7 + v3)] n11 μ12 (fun (x16 : Int) (n17 : Nat) (μ18 : Mem) => (Q x16 n17 μ18))))))))))) ∧ (x6 = 0 → (Q (-1) n7 μ8)))))))))))) : CI G Y_X11_hop [.inr 399, .inl v1, .inl v2, .inl v3] n μ Q := by
  refine e_I (by decide) (Nat.le_of_ble_eq_true rfl) ?_
  show Wa G Y_X11_hop (ZI G Y_X11_hop Q) 0 0 n μ 0 [(0, .inr 399), (1, .inl v1), (2, .inl v2), (3, .inl v3)] []
  refine a_aload_n (k := 0) dX11_hop_0 rfl rfl ?_
  refine a_iconst dX11_hop_1 (by decide) ?_
  refine p_X11_62 rfl dX11_hop_2 (St_ho hg St_399) (FX_put hg St_399 rfl) ?_
  refine a_aload_n (k := 0) dX11_hop_5 rfl rfl ?_
  refine a_iload_n (k := 1) dX11_hop_6 rfl rfl ?_
  refine k_X11_217 rfl dX11_hop_7 (Nat.le_of_ble_eq_true rfl) rfl (Nat.le_of_ble_eq_true rfl) (Nat.le_of_ble_eq_true rfl) (St_ho hg St_399) h (fun x1 n2 μ3 h => ?_)
  refine a_if_eq (tgt := 26) dX11_hop_10 (by decide) (fun c4 => ?_) (fun c4 => ?_)
  · replace h := h.1 c4
    refine a_iconst dX11_hop_26 (by decide) ?_
    exact a_iret dX11_hop_27 rfl (Nat.le_of_ble_eq_true rfl) (Nat.le_of_ble_eq_true rfl) h
  · replace h := h.2 c4
    refine a_iload_n (k := 2) dX11_hop_13 rfl rfl ?_
    refine a_if_lt (tgt := 26) dX11_hop_14 (by decide) (fun c5 => ?_) (fun c5 => ?_)
    · replace h := h.1 c5
      refine a_iconst dX11_hop_26 (by decide) ?_
      exact a_iret dX11_hop_27 rfl (Nat.le_of_ble_eq_true rfl) (Nat.le_of_ble_eq_true rfl) h
    · replace h := h.2 c5
      refine a_iload_n (k := 3) dX11_hop_17 rfl rfl ?_
      refine a_iconst dX11_hop_18 (by decide) ?_
      refine a_iconst dX11_hop_19 (by decide) ?_
      refine k_X11_69 rfl dX11_hop_20 (Nat.le_of_ble_eq_true rfl) rfl (Nat.le_of_ble_eq_true rfl) (Nat.le_of_ble_eq_true rfl) h (fun x6 n7 μ8 h => ?_)
      refine a_if_ne (tgt := 28) dX11_hop_23 (by decide) (fun c9 => ?_) (fun c9 => ?_)
      · replace h := h.1 c9
        refine a_aload_n (k := 0) dX11_hop_28 rfl rfl ?_
        refine a_iload_n (k := 1) dX11_hop_29 rfl rfl ?_
        refine k_X11_134 rfl dX11_hop_30 (Nat.le_of_ble_eq_true rfl) rfl (Nat.le_of_ble_eq_true rfl) (Nat.le_of_ble_eq_true rfl) (St_ho hg St_399) h (fun x10 n11 μ12 h => ?_)
        refine a_if_eq (tgt := 50) dX11_hop_33 (by decide) (fun c13 => ?_) (fun c13 => ?_)
        · replace h := h.1 c13
          exact h
        · replace h := h.2 c13
          refine a_iload_n (k := 2) dX11_hop_36 rfl rfl ?_
          refine a_if_ne (tgt := 50) dX11_hop_37 (by decide) (fun c14 => ?_) (fun c14 => ?_)
          · replace h := h.1 c14
            exact h
          · replace h := h.2 c14
            refine a_aload_n (k := 0) dX11_hop_40 rfl rfl ?_
            refine a_iload_n (k := 1) dX11_hop_41 rfl rfl ?_
            refine a_bipush dX11_hop_42 (by decide) (by decide) ?_
            refine a_iload_n (k := 3) dX11_hop_44 rfl rfl ?_
            obtain ⟨q15, h⟩ := h
            refine a_iadd dX11_hop_45 q15 ?_
            refine k_X11_127 rfl dX11_hop_46 (Nat.le_of_ble_eq_true rfl) rfl (Nat.le_of_ble_eq_true rfl) (Nat.le_of_ble_eq_true rfl) (St_ho hg St_399) h (fun x16 n17 μ18 h => ?_)
            exact a_iret dX11_hop_49 rfl (Nat.le_of_ble_eq_true rfl) (Nat.le_of_ble_eq_true rfl) h
      · replace h := h.2 c9
        refine a_iconst dX11_hop_26 (by decide) ?_
        exact a_iret dX11_hop_27 rfl (Nat.le_of_ble_eq_true rfl) (Nat.le_of_ble_eq_true rfl) h
theorem b_X11_hop_50 {G : GT} (hg : gx G = FX) {n : Nat} {μ : Mem} {Q : Int → Nat → Mem → Prop} {v1 v2 v3 : Int}  (h : (CI G Y_X11_isOn [.inr 399, .inl v1] n μ (fun (x1 : Int) (n2 : Nat) (μ3 : Mem) => ((x1 = 0 → (B_X11_hop_65 G Q n2 μ3 v1 v3 v2)) ∧ (¬ (x1 = 0) → ((inR (v2 - 1)) ∧ (B_X11_hop_65 G Q n2 μ3 v1 v3 (v2 - 1)))))))) : B_X11_hop_50 G Q n μ v1 v2 v3 := by
  show Wa G Y_X11_hop (ZI G Y_X11_hop Q) 0 0 n μ 50 [(0, .inr 399), (1, .inl v1), (2, .inl v2), (3, .inl v3)] []
  refine a_aload_n (k := 0) dX11_hop_50 rfl rfl ?_
  refine a_iload_n (k := 1) dX11_hop_51 rfl rfl ?_
  refine k_X11_134 rfl dX11_hop_52 (Nat.le_of_ble_eq_true rfl) rfl (Nat.le_of_ble_eq_true rfl) (Nat.le_of_ble_eq_true rfl) (St_ho hg St_399) h (fun x1 n2 μ3 h => ?_)
  refine a_if_eq (tgt := 64) dX11_hop_55 (by decide) (fun c4 => ?_) (fun c4 => ?_)
  · replace h := h.1 c4
    refine a_iload_n (k := 2) dX11_hop_64 rfl rfl ?_
    refine a_sub [0, 1, 3] rfl ?_
    exact h
  · replace h := h.2 c4
    refine a_iload_n (k := 2) dX11_hop_58 rfl rfl ?_
    refine a_iconst dX11_hop_59 (by decide) ?_
    obtain ⟨q5, h⟩ := h
    refine a_isub dX11_hop_60 q5 ?_
    refine a_goto (tgt := 65) dX11_hop_61 (by decide) ?_
    refine a_sub [0, 1, 3] rfl ?_
    exact h
theorem b_X11_hop_65 {G : GT} (hg : gx G = FX) {n : Nat} {μ : Mem} {Q : Int → Nat → Mem → Prop} {v1 v3 u0 : Int}  (h : (CI G Y_X11_its [.inr 399, .inl v1, .inl 9] n μ (fun (x1 : Int) (n2 : Nat) (μ3 : Mem) => ((x1 ≤ u0 → (Q (-9) n2 μ3)) ∧ (¬ (x1 ≤ u0) → ((inR (2 * u0)) ∧ ((inR (10 + (2 * u0))) ∧ ((inR ((10 + (2 * u0)) + v3)) ∧ (CI G Y_X11_its [.inr 399, .inl v1, .inl ((10 + (2 * u0)) + v3)] n2 μ3 (fun (x8 : Int) (n9 : Nat) (μ10 : Mem) => (Q x8 n9 μ10))))))))))) : B_X11_hop_65 G Q n μ v1 v3 u0 := by
  show Wa G Y_X11_hop (ZI G Y_X11_hop Q) 0 0 n μ 65 [(0, .inr 399), (1, .inl v1), (3, .inl v3)] [.inl u0]
  refine b_istore (L' := [(0, .inr 399), (1, .inl v1), (3, .inl v3), (4, .inl u0)]) [1, 2, 3, 0] dX11_hop_65 (Nat.le_of_ble_eq_true rfl) rfl ?_
  refine a_iload (k := 3) dX11_hop_67 rfl ?_
  refine a_aload_n (k := 0) dX11_hop_69 rfl rfl ?_
  refine a_iload_n (k := 1) dX11_hop_70 rfl rfl ?_
  refine a_bipush dX11_hop_71 (by decide) (by decide) ?_
  refine k_X11_127 rfl dX11_hop_73 (Nat.le_of_ble_eq_true rfl) rfl (Nat.le_of_ble_eq_true rfl) (Nat.le_of_ble_eq_true rfl) (St_ho hg St_399) h (fun x1 n2 μ3 h => ?_)
  refine a_icmp_ge (tgt := 96) dX11_hop_76 (by decide) (fun c4 => ?_) (fun c4 => ?_)
  · replace h := h.1 c4
    refine a_bipush dX11_hop_96 (by decide) (by decide) ?_
    exact a_iret dX11_hop_98 rfl (Nat.le_of_ble_eq_true rfl) (Nat.le_of_ble_eq_true rfl) h
  · replace h := h.2 c4
    refine a_aload_n (k := 0) dX11_hop_79 rfl rfl ?_
    refine a_iload_n (k := 1) dX11_hop_80 rfl rfl ?_
    refine a_bipush dX11_hop_81 (by decide) (by decide) ?_
    refine a_iconst dX11_hop_83 (by decide) ?_
    refine a_iload (k := 3) dX11_hop_84 rfl ?_
    obtain ⟨q5, h⟩ := h
    refine a_imul dX11_hop_86 q5 ?_
    obtain ⟨q6, h⟩ := h
    refine a_iadd dX11_hop_87 q6 ?_
    refine a_iload_n (k := 2) dX11_hop_88 rfl rfl ?_
    obtain ⟨q7, h⟩ := h
    refine a_iadd dX11_hop_89 q7 ?_
    refine k_X11_127 rfl dX11_hop_90 (Nat.le_of_ble_eq_true rfl) rfl (Nat.le_of_ble_eq_true rfl) (Nat.le_of_ble_eq_true rfl) (St_ho hg St_399) h (fun x8 n9 μ10 h => ?_)
    refine a_goto (tgt := 98) dX11_hop_93 (by decide) ?_
    exact a_iret dX11_hop_98 rfl (Nat.le_of_ble_eq_true rfl) (Nat.le_of_ble_eq_true rfl) h
theorem m_X11_takesTick {G : GT} (hg : gx G = FX) {n : Nat} {μ : Mem} {Q : Int → Nat → Mem → Prop} {v1 v2 v3 v4 : Int}  (h : ((v4 < v3 → (Q 0 n μ)) ∧ (¬ (v4 < v3) → (CI G Y_X11_its [.inr 399, .inl v1, .inl 0] n μ (fun (x2 : Int) (n3 : Nat) (μ4 : Mem) => (CI G Y_X11_ticks [.inr 399, .inl x2, .inl v2] n3 μ4 (fun (x5 : Int) (n6 : Nat) (μ7 : Mem) => ((inR (v3 + x5)) ∧ (((v3 + x5) ≤ v4 → (Q 0 n6 μ7)) ∧ (¬ ((v3 + x5) ≤ v4) → (Q 1 n6 μ7))))))))))) : CI G Y_X11_takesTick [.inr 399, .inl v1, .inl v2, .inl v3, .inl v4] n μ Q := by
  refine e_I (by decide) (Nat.le_of_ble_eq_true rfl) ?_
  show Wa G Y_X11_takesTick (ZI G Y_X11_takesTick Q) 0 0 n μ 0 [(0, .inr 399), (1, .inl v1), (2, .inl v2), (3, .inl v3), (4, .inl v4)] []
  refine a_iload (k := 4) dX11_takesTick_0 rfl ?_
  refine a_iload_n (k := 3) dX11_takesTick_2 rfl rfl ?_
  refine a_icmp_lt (tgt := 28) dX11_takesTick_3 (by decide) (fun c1 => ?_) (fun c1 => ?_)
  · replace h := h.1 c1
    refine a_iconst dX11_takesTick_28 (by decide) ?_
    exact a_zret dX11_takesTick_29 rfl (Nat.le_of_ble_eq_true rfl) (Nat.le_of_ble_eq_true rfl) (by decide) h
  · replace h := h.2 c1
    refine a_iload (k := 4) dX11_takesTick_6 rfl ?_
    refine a_iload_n (k := 3) dX11_takesTick_8 rfl rfl ?_
    refine a_aload_n (k := 0) dX11_takesTick_9 rfl rfl ?_
    refine a_aload_n (k := 0) dX11_takesTick_10 rfl rfl ?_
    refine a_iload_n (k := 1) dX11_takesTick_11 rfl rfl ?_
    refine a_iconst dX11_takesTick_12 (by decide) ?_
    refine k_X11_127 rfl dX11_takesTick_13 (Nat.le_of_ble_eq_true rfl) rfl (Nat.le_of_ble_eq_true rfl) (Nat.le_of_ble_eq_true rfl) (St_ho hg St_399) h (fun x2 n3 μ4 h => ?_)
    refine a_iload_n (k := 2) dX11_takesTick_16 rfl rfl ?_
    refine k_X11_131 rfl dX11_takesTick_17 (Nat.le_of_ble_eq_true rfl) rfl (Nat.le_of_ble_eq_true rfl) (Nat.le_of_ble_eq_true rfl) (St_ho hg St_399) h (fun x5 n6 μ7 h => ?_)
    obtain ⟨q8, h⟩ := h
    refine a_iadd dX11_takesTick_20 q8 ?_
    refine a_icmp_ge (tgt := 28) dX11_takesTick_21 (by decide) (fun c9 => ?_) (fun c9 => ?_)
    · replace h := h.1 c9
      refine a_iconst dX11_takesTick_28 (by decide) ?_
      exact a_zret dX11_takesTick_29 rfl (Nat.le_of_ble_eq_true rfl) (Nat.le_of_ble_eq_true rfl) (by decide) h
    · replace h := h.2 c9
      refine a_iconst dX11_takesTick_24 (by decide) ?_
      refine a_goto (tgt := 29) dX11_takesTick_25 (by decide) ?_
      exact a_zret dX11_takesTick_29 rfl (Nat.le_of_ble_eq_true rfl) (Nat.le_of_ble_eq_true rfl) (by decide) h
abbrev B_X11_tick_32 (G : GT) (Q : Int → Nat → Mem → Prop) (n : Nat) (μ : Mem) (v1 : Int) (v2 : Int) (v3 : Int) : Prop := Wa G Y_X11_tick (ZI G Y_X11_tick Q) 0 0 n μ 32 [(0, .inr 399), (1, .inl v1), (2, .inl v2), (3, .inl v3)] []
abbrev B_X11_tick_74 (G : GT) (Q : Int → Nat → Mem → Prop) (n : Nat) (μ : Mem) (v1 : Int) (v2 : Int) (v3 : Int) : Prop := Wa G Y_X11_tick (ZI G Y_X11_tick Q) 0 0 n μ 74 [(0, .inr 399), (1, .inl v1), (2, .inl v2), (3, .inl v3)] []
abbrev B_X11_tick_75 (G : GT) (Q : Int → Nat → Mem → Prop) (n : Nat) (μ : Mem) (v1 : Int) (v2 : Int) (v3 : Int) (u0 : Int) : Prop := Wa G Y_X11_tick (ZI G Y_X11_tick Q) 0 0 n μ 75 [(0, .inr 399), (1, .inl v1), (2, .inl v2), (3, .inl v3)] [.inl u0]
abbrev B_X11_tick_80 (G : GT) (Q : Int → Nat → Mem → Prop) (n : Nat) (μ : Mem) (v1 : Int) (v2 : Int) (v3 : Int) (v4 : Int) (v5 : Int) : Prop := Wa G Y_X11_tick (ZI G Y_X11_tick Q) 0 0 n μ 80 [(0, .inr 399), (1, .inl v1), (2, .inl v2), (3, .inl v3), (4, .inl v4), (5, .inl v5)] []
abbrev B_X11_tick_137 (G : GT) (Q : Int → Nat → Mem → Prop) (n : Nat) (μ : Mem) (v1 : Int) (v2 : Int) (v3 : Int) (v5 : Int) : Prop := Wa G Y_X11_tick (ZI G Y_X11_tick Q) 0 0 n μ 137 [(0, .inr 399), (1, .inl v1), (2, .inl v2), (3, .inl v3), (5, .inl v5)] []
theorem m_X11_tick {G : GT} (hg : gx G = FX) {n : Nat} {μ : Mem} {Q : Int → Nat → Mem → Prop} {v1 v2 : Int}  (h : (CI G Y_X11_isContact [.inr 399, .inl v1] n (up μ 399 0 0) (fun (x1 : Int) (n2 : Nat) (μ3 : Mem) => ((x1 = 0 → (Q (-1) n2 μ3)) ∧ (¬ (x1 = 0) → (CI G Y_X11_in [.inl v2, .inl (μ3 402 0), .inl 99] n2 μ3 (fun (x5 : Int) (n6 : Nat) (μ7 : Mem) => ((¬ (x5 = 0) → (B_X11_tick_32 G Q n6 μ7 v1 v2 0)) ∧ (x5 = 0 → (Q (-1) n6 μ7)))))))))) : CI G Y_X11_tick [.inr 399, .inl v1, .inl v2] n μ Q := by
  refine e_I (by decide) (Nat.le_of_ble_eq_true rfl) ?_
  show Wa G Y_X11_tick (ZI G Y_X11_tick Q) 0 0 n μ 0 [(0, .inr 399), (1, .inl v1), (2, .inl v2)] []
  refine a_aload_n (k := 0) dX11_tick_0 rfl rfl ?_
  refine a_iconst dX11_tick_1 (by decide) ?_
  refine p_X11_62 rfl dX11_tick_2 (St_ho hg St_399) (FX_put hg St_399 rfl) ?_
  refine a_aload_n (k := 0) dX11_tick_5 rfl rfl ?_
  refine a_iload_n (k := 1) dX11_tick_6 rfl rfl ?_
  refine k_X11_117 rfl dX11_tick_7 (Nat.le_of_ble_eq_true rfl) rfl (Nat.le_of_ble_eq_true rfl) (Nat.le_of_ble_eq_true rfl) (St_ho hg St_399) h (fun x1 n2 μ3 h => ?_)
  refine a_if_eq (tgt := 28) dX11_tick_10 (by decide) (fun c4 => ?_) (fun c4 => ?_)
  · replace h := h.1 c4
    refine a_iconst dX11_tick_28 (by decide) ?_
    exact a_iret dX11_tick_29 rfl (Nat.le_of_ble_eq_true rfl) (Nat.le_of_ble_eq_true rfl) h
  · replace h := h.2 c4
    refine a_iload_n (k := 2) dX11_tick_13 rfl rfl ?_
    refine a_aload_n (k := 0) dX11_tick_14 rfl rfl ?_
    refine gs_X11_16 rfl dX11_tick_15 hg St_399 ?_
    refine a_iconst dX11_tick_18 (by decide) ?_
    refine a_iaload dX11_tick_19 (St_ho hg St_402) (by decide) (by decide) ?_
    refine a_bipush dX11_tick_20 (by decide) (by decide) ?_
    refine k_X11_69 rfl dX11_tick_22 (Nat.le_of_ble_eq_true rfl) rfl (Nat.le_of_ble_eq_true rfl) (Nat.le_of_ble_eq_true rfl) h (fun x5 n6 μ7 h => ?_)
    refine a_if_ne (tgt := 30) dX11_tick_25 (by decide) (fun c8 => ?_) (fun c8 => ?_)
    · replace h := h.1 c8
      refine a_iconst dX11_tick_30 (by decide) ?_
      refine b_istore_n (L' := [(0, .inr 399), (1, .inl v1), (2, .inl v2), (3, .inl 0)]) [1, 2, 3, 0] dX11_tick_31 rfl (Nat.le_of_ble_eq_true rfl) rfl ?_
      exact h
    · replace h := h.2 c8
      refine a_iconst dX11_tick_28 (by decide) ?_
      exact a_iret dX11_tick_29 rfl (Nat.le_of_ble_eq_true rfl) (Nat.le_of_ble_eq_true rfl) h
theorem b_X11_tick_32 {G : GT} (hg : gx G = FX) {n : Nat} {μ : Mem} {Q : Int → Nat → Mem → Prop} {v1 v2 v3 : Int}  (h : (((μ 402 2) ≤ v3 → (Q (-9) n μ)) ∧ (¬ ((μ 402 2) ≤ v3) → (CI G Y_X11_its [.inr 399, .inl v3, .inl 7] n μ (fun (x2 : Int) (n3 : Nat) (μ4 : Mem) => ((¬ (x2 = v1) → (B_X11_tick_74 G Q n3 μ4 v1 v2 v3)) ∧ (x2 = v1 → (CI G Y_X11_its [.inr 399, .inl v3, .inl 8] n3 μ4 (fun (x6 : Int) (n7 : Nat) (μ8 : Mem) => (CI G Y_X11_takesTick [.inr 399, .inl v3, .inl v1, .inl x6, .inl v2] n7 μ8 (fun (x9 : Int) (n10 : Nat) (μ11 : Mem) => ((x9 = 0 → (B_X11_tick_74 G Q n10 μ11 v1 v2 v3)) ∧ (¬ (x9 = 0) → (B_X11_tick_75 G Q n10 μ11 v1 v2 v3 1)))))))))))))) : B_X11_tick_32 G Q n μ v1 v2 v3 := by
  show Wa G Y_X11_tick (ZI G Y_X11_tick Q) 0 0 n μ 32 [(0, .inr 399), (1, .inl v1), (2, .inl v2), (3, .inl v3)] []
  refine a_iload_n (k := 3) dX11_tick_32 rfl rfl ?_
  refine a_aload_n (k := 0) dX11_tick_33 rfl rfl ?_
  refine gs_X11_16 rfl dX11_tick_34 hg St_399 ?_
  refine a_iconst dX11_tick_37 (by decide) ?_
  refine a_iaload dX11_tick_38 (St_ho hg St_402) (by decide) (by decide) ?_
  refine a_icmp_ge (tgt := 163) dX11_tick_39 (by decide) (fun c1 => ?_) (fun c1 => ?_)
  · replace h := h.1 c1
    refine a_bipush dX11_tick_163 (by decide) (by decide) ?_
    exact a_iret dX11_tick_165 rfl (Nat.le_of_ble_eq_true rfl) (Nat.le_of_ble_eq_true rfl) h
  · replace h := h.2 c1
    refine a_aload_n (k := 0) dX11_tick_42 rfl rfl ?_
    refine a_iload_n (k := 3) dX11_tick_43 rfl rfl ?_
    refine a_bipush dX11_tick_44 (by decide) (by decide) ?_
    refine k_X11_127 rfl dX11_tick_46 (Nat.le_of_ble_eq_true rfl) rfl (Nat.le_of_ble_eq_true rfl) (Nat.le_of_ble_eq_true rfl) (St_ho hg St_399) h (fun x2 n3 μ4 h => ?_)
    refine a_iload_n (k := 1) dX11_tick_49 rfl rfl ?_
    refine a_icmp_ne (tgt := 74) dX11_tick_50 (by decide) (fun c5 => ?_) (fun c5 => ?_)
    · replace h := h.1 c5
      exact h
    · replace h := h.2 c5
      refine a_aload_n (k := 0) dX11_tick_53 rfl rfl ?_
      refine a_iload_n (k := 3) dX11_tick_54 rfl rfl ?_
      refine a_iload_n (k := 1) dX11_tick_55 rfl rfl ?_
      refine a_aload_n (k := 0) dX11_tick_56 rfl rfl ?_
      refine a_iload_n (k := 3) dX11_tick_57 rfl rfl ?_
      refine a_bipush dX11_tick_58 (by decide) (by decide) ?_
      refine k_X11_127 rfl dX11_tick_60 (Nat.le_of_ble_eq_true rfl) rfl (Nat.le_of_ble_eq_true rfl) (Nat.le_of_ble_eq_true rfl) (St_ho hg St_399) h (fun x6 n7 μ8 h => ?_)
      refine a_iload_n (k := 2) dX11_tick_63 rfl rfl ?_
      refine k_X11_232 rfl dX11_tick_64 (Nat.le_of_ble_eq_true rfl) rfl (Nat.le_of_ble_eq_true rfl) (Nat.le_of_ble_eq_true rfl) (St_ho hg St_399) h (fun x9 n10 μ11 h => ?_)
      refine a_if_eq (tgt := 74) dX11_tick_67 (by decide) (fun c12 => ?_) (fun c12 => ?_)
      · replace h := h.1 c12
        exact h
      · replace h := h.2 c12
        refine a_iconst dX11_tick_70 (by decide) ?_
        refine a_goto (tgt := 75) dX11_tick_71 (by decide) ?_
        exact h
theorem b_X11_tick_74 {G : GT} (hg : gx G = FX) {n : Nat} {μ : Mem} {Q : Int → Nat → Mem → Prop} {v1 v2 v3 : Int}  (h : (B_X11_tick_75 G Q n μ v1 v2 v3 0)) : B_X11_tick_74 G Q n μ v1 v2 v3 := by
  show Wa G Y_X11_tick (ZI G Y_X11_tick Q) 0 0 n μ 74 [(0, .inr 399), (1, .inl v1), (2, .inl v2), (3, .inl v3)] []
  refine a_iconst dX11_tick_74 (by decide) ?_
  exact h
theorem b_X11_tick_75 {G : GT} (hg : gx G = FX) {n : Nat} {μ : Mem} {Q : Int → Nat → Mem → Prop} {v1 v2 v3 u0 : Int}  (h : (B_X11_tick_80 G Q n μ v1 v2 v3 u0 0)) : B_X11_tick_75 G Q n μ v1 v2 v3 u0 := by
  show Wa G Y_X11_tick (ZI G Y_X11_tick Q) 0 0 n μ 75 [(0, .inr 399), (1, .inl v1), (2, .inl v2), (3, .inl v3)] [.inl u0]
  refine b_istore (L' := [(0, .inr 399), (1, .inl v1), (2, .inl v2), (3, .inl v3), (4, .inl u0)]) [1, 2, 3, 4, 0] dX11_tick_75 (Nat.le_of_ble_eq_true rfl) rfl ?_
  refine a_iconst dX11_tick_77 (by decide) ?_
  refine b_istore (L' := [(0, .inr 399), (1, .inl v1), (2, .inl v2), (3, .inl v3), (4, .inl u0), (5, .inl 0)]) [1, 2, 3, 4, 5, 0] dX11_tick_78 (Nat.le_of_ble_eq_true rfl) rfl ?_
  exact h
theorem b_X11_tick_80 {G : GT} (hg : gx G = FX) {n : Nat} {μ : Mem} {Q : Int → Nat → Mem → Prop} {v1 v2 v3 v4 v5 : Int}  (h : (CI G Y_X11_its [.inr 399, .inl v3, .inl 9] n μ (fun (x1 : Int) (n2 : Nat) (μ3 : Mem) => ((x1 ≤ v5 → ((v4 = 0 → ((inR (v3 + 1)) ∧ (B_X11_tick_32 G Q n2 μ3 v1 v2 (v3 + 1)))) ∧ (¬ (v4 = 0) → (Q v3 n2 μ3)))) ∧ (¬ (x1 ≤ v5) → ((¬ (v4 = 0) → (B_X11_tick_137 G Q n2 μ3 v1 v2 v3 v5)) ∧ (v4 = 0 → ((inR (2 * v5)) ∧ ((inR (10 + (2 * v5))) ∧ (CI G Y_X11_its [.inr 399, .inl v3, .inl (10 + (2 * v5))] n2 μ3 (fun (x10 : Int) (n11 : Nat) (μ12 : Mem) => ((¬ (x10 = v1) → ((inR (v5 + 1)) ∧ (B_X11_tick_80 G Q n11 μ12 v1 v2 v3 0 (v5 + 1)))) ∧ (x10 = v1 → ((inR (2 * v5)) ∧ ((inR (10 + (2 * v5))) ∧ ((inR ((10 + (2 * v5)) + 1)) ∧ (CI G Y_X11_its [.inr 399, .inl v3, .inl ((10 + (2 * v5)) + 1)] n11 μ12 (fun (x18 : Int) (n19 : Nat) (μ20 : Mem) => (CI G Y_X11_takesTick [.inr 399, .inl v3, .inl v1, .inl x18, .inl v2] n19 μ20 (fun (x21 : Int) (n22 : Nat) (μ23 : Mem) => ((x21 = 0 → ((inR (v5 + 1)) ∧ (B_X11_tick_80 G Q n22 μ23 v1 v2 v3 0 (v5 + 1)))) ∧ (¬ (x21 = 0) → (B_X11_tick_137 G Q n22 μ23 v1 v2 v3 v5))))))))))))))))))))))) : B_X11_tick_80 G Q n μ v1 v2 v3 v4 v5 := by
  show Wa G Y_X11_tick (ZI G Y_X11_tick Q) 0 0 n μ 80 [(0, .inr 399), (1, .inl v1), (2, .inl v2), (3, .inl v3), (4, .inl v4), (5, .inl v5)] []
  refine a_iload (k := 5) dX11_tick_80 rfl ?_
  refine a_aload_n (k := 0) dX11_tick_82 rfl rfl ?_
  refine a_iload_n (k := 3) dX11_tick_83 rfl rfl ?_
  refine a_bipush dX11_tick_84 (by decide) (by decide) ?_
  refine k_X11_127 rfl dX11_tick_86 (Nat.le_of_ble_eq_true rfl) rfl (Nat.le_of_ble_eq_true rfl) (Nat.le_of_ble_eq_true rfl) (St_ho hg St_399) h (fun x1 n2 μ3 h => ?_)
  refine a_icmp_ge (tgt := 150) dX11_tick_89 (by decide) (fun c4 => ?_) (fun c4 => ?_)
  · replace h := h.1 c4
    refine a_iload (k := 4) dX11_tick_150 rfl ?_
    refine a_if_eq (tgt := 157) dX11_tick_152 (by decide) (fun c5 => ?_) (fun c5 => ?_)
    · replace h := h.1 c5
      obtain ⟨q6, h⟩ := h
      refine b_iinc (L' := [(0, .inr 399), (1, .inl v1), (2, .inl v2), (3, .inl (v3 + 1)), (4, .inl v4), (5, .inl v5)]) (k := 3) [1, 2, 3, 0, 4, 5] dX11_tick_157 rfl q6 (Nat.le_of_ble_eq_true rfl) rfl ?_
      refine a_goto (tgt := 32) dX11_tick_160 (by decide) ?_
      refine a_sub [0, 1, 2, 3] rfl ?_
      exact h
    · replace h := h.2 c5
      refine a_iload_n (k := 3) dX11_tick_155 rfl rfl ?_
      exact a_iret dX11_tick_156 rfl (Nat.le_of_ble_eq_true rfl) (Nat.le_of_ble_eq_true rfl) h
  · replace h := h.2 c4
    refine a_iload (k := 4) dX11_tick_92 rfl ?_
    refine a_if_ne (tgt := 137) dX11_tick_94 (by decide) (fun c7 => ?_) (fun c7 => ?_)
    · replace h := h.1 c7
      refine a_sub [0, 1, 2, 3, 5] rfl ?_
      exact h
    · replace h := h.2 c7
      refine a_aload_n (k := 0) dX11_tick_97 rfl rfl ?_
      refine a_iload_n (k := 3) dX11_tick_98 rfl rfl ?_
      refine a_bipush dX11_tick_99 (by decide) (by decide) ?_
      refine a_iconst dX11_tick_101 (by decide) ?_
      refine a_iload (k := 5) dX11_tick_102 rfl ?_
      obtain ⟨q8, h⟩ := h
      refine a_imul dX11_tick_104 q8 ?_
      obtain ⟨q9, h⟩ := h
      refine a_iadd dX11_tick_105 q9 ?_
      refine k_X11_127 rfl dX11_tick_106 (Nat.le_of_ble_eq_true rfl) rfl (Nat.le_of_ble_eq_true rfl) (Nat.le_of_ble_eq_true rfl) (St_ho hg St_399) h (fun x10 n11 μ12 h => ?_)
      refine a_iload_n (k := 1) dX11_tick_109 rfl rfl ?_
      refine a_icmp_ne (tgt := 141) dX11_tick_110 (by decide) (fun c13 => ?_) (fun c13 => ?_)
      · replace h := h.1 c13
        refine a_iconst dX11_tick_141 (by decide) ?_
        refine b_istore (L' := [(0, .inr 399), (1, .inl v1), (2, .inl v2), (3, .inl v3), (4, .inl 0), (5, .inl v5)]) [1, 2, 3, 4, 0, 5] dX11_tick_142 (Nat.le_of_ble_eq_true rfl) rfl ?_
        obtain ⟨q14, h⟩ := h
        refine b_iinc (L' := [(0, .inr 399), (1, .inl v1), (2, .inl v2), (3, .inl v3), (4, .inl 0), (5, .inl (v5 + 1))]) (k := 5) [1, 2, 3, 4, 5, 0] dX11_tick_144 rfl q14 (Nat.le_of_ble_eq_true rfl) rfl ?_
        refine a_goto (tgt := 80) dX11_tick_147 (by decide) ?_
        exact h
      · replace h := h.2 c13
        refine a_aload_n (k := 0) dX11_tick_113 rfl rfl ?_
        refine a_iload_n (k := 3) dX11_tick_114 rfl rfl ?_
        refine a_iload_n (k := 1) dX11_tick_115 rfl rfl ?_
        refine a_aload_n (k := 0) dX11_tick_116 rfl rfl ?_
        refine a_iload_n (k := 3) dX11_tick_117 rfl rfl ?_
        refine a_bipush dX11_tick_118 (by decide) (by decide) ?_
        refine a_iconst dX11_tick_120 (by decide) ?_
        refine a_iload (k := 5) dX11_tick_121 rfl ?_
        obtain ⟨q15, h⟩ := h
        refine a_imul dX11_tick_123 q15 ?_
        obtain ⟨q16, h⟩ := h
        refine a_iadd dX11_tick_124 q16 ?_
        refine a_iconst dX11_tick_125 (by decide) ?_
        obtain ⟨q17, h⟩ := h
        refine a_iadd dX11_tick_126 q17 ?_
        refine k_X11_127 rfl dX11_tick_127 (Nat.le_of_ble_eq_true rfl) rfl (Nat.le_of_ble_eq_true rfl) (Nat.le_of_ble_eq_true rfl) (St_ho hg St_399) h (fun x18 n19 μ20 h => ?_)
        refine a_iload_n (k := 2) dX11_tick_130 rfl rfl ?_
        refine k_X11_232 rfl dX11_tick_131 (Nat.le_of_ble_eq_true rfl) rfl (Nat.le_of_ble_eq_true rfl) (Nat.le_of_ble_eq_true rfl) (St_ho hg St_399) h (fun x21 n22 μ23 h => ?_)
        refine a_if_eq (tgt := 141) dX11_tick_134 (by decide) (fun c24 => ?_) (fun c24 => ?_)
        · replace h := h.1 c24
          refine a_iconst dX11_tick_141 (by decide) ?_
          refine b_istore (L' := [(0, .inr 399), (1, .inl v1), (2, .inl v2), (3, .inl v3), (4, .inl 0), (5, .inl v5)]) [1, 2, 3, 4, 0, 5] dX11_tick_142 (Nat.le_of_ble_eq_true rfl) rfl ?_
          obtain ⟨q25, h⟩ := h
          refine b_iinc (L' := [(0, .inr 399), (1, .inl v1), (2, .inl v2), (3, .inl v3), (4, .inl 0), (5, .inl (v5 + 1))]) (k := 5) [1, 2, 3, 4, 5, 0] dX11_tick_144 rfl q25 (Nat.le_of_ble_eq_true rfl) rfl ?_
          refine a_goto (tgt := 80) dX11_tick_147 (by decide) ?_
          exact h
        · replace h := h.2 c24
          refine a_sub [0, 1, 2, 3, 5] rfl ?_
          exact h
theorem b_X11_tick_137 {G : GT} (hg : gx G = FX) {n : Nat} {μ : Mem} {Q : Int → Nat → Mem → Prop} {v1 v2 v3 v5 : Int}  (h : ((inR (v5 + 1)) ∧ (B_X11_tick_80 G Q n μ v1 v2 v3 1 (v5 + 1)))) : B_X11_tick_137 G Q n μ v1 v2 v3 v5 := by
  show Wa G Y_X11_tick (ZI G Y_X11_tick Q) 0 0 n μ 137 [(0, .inr 399), (1, .inl v1), (2, .inl v2), (3, .inl v3), (5, .inl v5)] []
  refine a_iconst dX11_tick_137 (by decide) ?_
  refine a_goto (tgt := 142) dX11_tick_138 (by decide) ?_
  refine b_istore (L' := [(0, .inr 399), (1, .inl v1), (2, .inl v2), (3, .inl v3), (4, .inl 1), (5, .inl v5)]) [1, 2, 3, 4, 0, 5] dX11_tick_142 (Nat.le_of_ble_eq_true rfl) rfl ?_
  obtain ⟨q1, h⟩ := h
  refine b_iinc (L' := [(0, .inr 399), (1, .inl v1), (2, .inl v2), (3, .inl v3), (4, .inl 1), (5, .inl (v5 + 1))]) (k := 5) [1, 2, 3, 4, 5, 0] dX11_tick_144 rfl q1 (Nat.le_of_ble_eq_true rfl) rfl ?_
  refine a_goto (tgt := 80) dX11_tick_147 (by decide) ?_
  exact h
theorem m_X11_askedOf {G : GT} (hg : gx G = FX) {n : Nat} {μ : Mem} {Q : Int → Nat → Mem → Prop} {v1 v2 v3 v4 v5 : Int}  (h : ((¬ (v1 = v2) → (CV G Y_X11_laysTaken [.inr 399, .inl (-9), .inl v4] n μ (fun (n3 : Nat) (μ4 : Mem) => (CI G Y_X11_findsEnd [.inr 399, .inl v3, .inl v1, .inl (μ4 402 0), .inl v2, .inl v5] n3 μ4 (fun (x5 : Int) (n6 : Nat) (μ7 : Mem) => ((x5 = 0 → (Q (-9) n6 μ7)) ∧ (¬ (x5 = 0) → (Q (μ7 399 27) n6 μ7)))))))) ∧ (v1 = v2 → (Q (μ 402 0) n μ)))) : CI G Y_X11_askedOf [.inr 399, .inl v1, .inl v2, .inl v3, .inl v4, .inl v5] n μ Q := by
  refine e_I (by decide) (Nat.le_of_ble_eq_true rfl) ?_
  show Wa G Y_X11_askedOf (ZI G Y_X11_askedOf Q) 0 0 n μ 0 [(0, .inr 399), (1, .inl v1), (2, .inl v2), (3, .inl v3), (4, .inl v4), (5, .inl v5)] []
  refine a_iload_n (k := 1) dX11_askedOf_0 rfl rfl ?_
  refine a_iload_n (k := 2) dX11_askedOf_1 rfl rfl ?_
  refine a_icmp_ne (tgt := 12) dX11_askedOf_2 (by decide) (fun c1 => ?_) (fun c1 => ?_)
  · replace h := h.1 c1
    refine a_aload_n (k := 0) dX11_askedOf_12 rfl rfl ?_
    refine a_bipush dX11_askedOf_13 (by decide) (by decide) ?_
    refine a_iload (k := 4) dX11_askedOf_15 rfl ?_
    refine k_X11_183 rfl dX11_askedOf_17 (Nat.le_of_ble_eq_true rfl) rfl (Nat.le_of_ble_eq_true rfl) (Nat.le_of_ble_eq_true rfl) (St_ho hg St_399) h (fun n3 μ4 h => ?_)
    refine a_aload_n (k := 0) dX11_askedOf_20 rfl rfl ?_
    refine a_iload_n (k := 3) dX11_askedOf_21 rfl rfl ?_
    refine a_iload_n (k := 1) dX11_askedOf_22 rfl rfl ?_
    refine a_aload_n (k := 0) dX11_askedOf_23 rfl rfl ?_
    refine gs_X11_16 rfl dX11_askedOf_24 hg St_399 ?_
    refine a_iconst dX11_askedOf_27 (by decide) ?_
    refine a_iaload dX11_askedOf_28 (St_ho hg St_402) (by decide) (by decide) ?_
    refine a_iload_n (k := 2) dX11_askedOf_29 rfl rfl ?_
    refine a_iload (k := 5) dX11_askedOf_30 rfl ?_
    refine k_X11_187 rfl dX11_askedOf_32 (Nat.le_of_ble_eq_true rfl) rfl (Nat.le_of_ble_eq_true rfl) (Nat.le_of_ble_eq_true rfl) (St_ho hg St_399) h (fun x5 n6 μ7 h => ?_)
    refine a_if_eq (tgt := 45) dX11_askedOf_35 (by decide) (fun c8 => ?_) (fun c8 => ?_)
    · replace h := h.1 c8
      refine a_bipush dX11_askedOf_45 (by decide) (by decide) ?_
      exact a_iret dX11_askedOf_47 rfl (Nat.le_of_ble_eq_true rfl) (Nat.le_of_ble_eq_true rfl) h
    · replace h := h.2 c8
      refine a_aload_n (k := 0) dX11_askedOf_38 rfl rfl ?_
      refine g_X11_158 rfl dX11_askedOf_39 (St_ho hg St_399) ?_
      refine a_goto (tgt := 47) dX11_askedOf_42 (by decide) ?_
      exact a_iret dX11_askedOf_47 rfl (Nat.le_of_ble_eq_true rfl) (Nat.le_of_ble_eq_true rfl) h
  · replace h := h.2 c1
    refine a_aload_n (k := 0) dX11_askedOf_5 rfl rfl ?_
    refine gs_X11_16 rfl dX11_askedOf_6 hg St_399 ?_
    refine a_iconst dX11_askedOf_9 (by decide) ?_
    refine a_iaload dX11_askedOf_10 (St_ho hg St_402) (by decide) (by decide) ?_
    exact a_iret dX11_askedOf_11 rfl (Nat.le_of_ble_eq_true rfl) (Nat.le_of_ble_eq_true rfl) h
theorem m_X11_asks {G : GT} (hg : gx G = FX) {n : Nat} {μ : Mem} {Q : Int → Nat → Mem → Prop} {v1 v2 v3 v4 : Int}  (h : (CI G Y_X11_isNode [.inr 399, .inl v1] n (up μ 399 0 0) (fun (x1 : Int) (n2 : Nat) (μ3 : Mem) => ((x1 = 0 → (Q (-1) n2 μ3)) ∧ (¬ (x1 = 0) → (CI G Y_X11_isNode [.inr 399, .inl v2] n2 μ3 (fun (x5 : Int) (n6 : Nat) (μ7 : Mem) => ((x5 = 0 → (Q (-1) n6 μ7)) ∧ (¬ (x5 = 0) → (CI G Y_X11_in [.inl v3, .inl 1, .inl 20] n6 μ7 (fun (x9 : Int) (n10 : Nat) (μ11 : Mem) => ((x9 = 0 → (Q (-1) n10 μ11)) ∧ (¬ (x9 = 0) → (CI G Y_X11_in [.inl v4, .inl 0, .inl 2] n10 μ11 (fun (x13 : Int) (n14 : Nat) (μ15 : Mem) => ((¬ (x13 = 0) → (CI G Y_X11_askedOf [.inr 399, .inl v1, .inl v2, .inl v3, .inl v4, .inl (-9)] n14 μ15 (fun (x17 : Int) (n18 : Nat) (μ19 : Mem) => (Q x17 n18 μ19)))) ∧ (x13 = 0 → (Q (-1) n14 μ15)))))))))))))))))) : CI G Y_X11_asks [.inr 399, .inl v1, .inl v2, .inl v3, .inl v4] n μ Q := by
  refine e_I (by decide) (Nat.le_of_ble_eq_true rfl) ?_
  show Wa G Y_X11_asks (ZI G Y_X11_asks Q) 0 0 n μ 0 [(0, .inr 399), (1, .inl v1), (2, .inl v2), (3, .inl v3), (4, .inl v4)] []
  refine a_aload_n (k := 0) dX11_asks_0 rfl rfl ?_
  refine a_iconst dX11_asks_1 (by decide) ?_
  refine p_X11_62 rfl dX11_asks_2 (St_ho hg St_399) (FX_put hg St_399 rfl) ?_
  refine a_aload_n (k := 0) dX11_asks_5 rfl rfl ?_
  refine a_iload_n (k := 1) dX11_asks_6 rfl rfl ?_
  refine k_X11_205 rfl dX11_asks_7 (Nat.le_of_ble_eq_true rfl) rfl (Nat.le_of_ble_eq_true rfl) (Nat.le_of_ble_eq_true rfl) (St_ho hg St_399) h (fun x1 n2 μ3 h => ?_)
  refine a_if_eq (tgt := 41) dX11_asks_10 (by decide) (fun c4 => ?_) (fun c4 => ?_)
  · replace h := h.1 c4
    refine a_iconst dX11_asks_41 (by decide) ?_
    exact a_iret dX11_asks_42 rfl (Nat.le_of_ble_eq_true rfl) (Nat.le_of_ble_eq_true rfl) h
  · replace h := h.2 c4
    refine a_aload_n (k := 0) dX11_asks_13 rfl rfl ?_
    refine a_iload_n (k := 2) dX11_asks_14 rfl rfl ?_
    refine k_X11_205 rfl dX11_asks_15 (Nat.le_of_ble_eq_true rfl) rfl (Nat.le_of_ble_eq_true rfl) (Nat.le_of_ble_eq_true rfl) (St_ho hg St_399) h (fun x5 n6 μ7 h => ?_)
    refine a_if_eq (tgt := 41) dX11_asks_18 (by decide) (fun c8 => ?_) (fun c8 => ?_)
    · replace h := h.1 c8
      refine a_iconst dX11_asks_41 (by decide) ?_
      exact a_iret dX11_asks_42 rfl (Nat.le_of_ble_eq_true rfl) (Nat.le_of_ble_eq_true rfl) h
    · replace h := h.2 c8
      refine a_iload_n (k := 3) dX11_asks_21 rfl rfl ?_
      refine a_iconst dX11_asks_22 (by decide) ?_
      refine a_bipush dX11_asks_23 (by decide) (by decide) ?_
      refine k_X11_69 rfl dX11_asks_25 (Nat.le_of_ble_eq_true rfl) rfl (Nat.le_of_ble_eq_true rfl) (Nat.le_of_ble_eq_true rfl) h (fun x9 n10 μ11 h => ?_)
      refine a_if_eq (tgt := 41) dX11_asks_28 (by decide) (fun c12 => ?_) (fun c12 => ?_)
      · replace h := h.1 c12
        refine a_iconst dX11_asks_41 (by decide) ?_
        exact a_iret dX11_asks_42 rfl (Nat.le_of_ble_eq_true rfl) (Nat.le_of_ble_eq_true rfl) h
      · replace h := h.2 c12
        refine a_iload (k := 4) dX11_asks_31 rfl ?_
        refine a_iconst dX11_asks_33 (by decide) ?_
        refine a_iconst dX11_asks_34 (by decide) ?_
        refine k_X11_69 rfl dX11_asks_35 (Nat.le_of_ble_eq_true rfl) rfl (Nat.le_of_ble_eq_true rfl) (Nat.le_of_ble_eq_true rfl) h (fun x13 n14 μ15 h => ?_)
        refine a_if_ne (tgt := 43) dX11_asks_38 (by decide) (fun c16 => ?_) (fun c16 => ?_)
        · replace h := h.1 c16
          refine a_aload_n (k := 0) dX11_asks_43 rfl rfl ?_
          refine a_iload_n (k := 1) dX11_asks_44 rfl rfl ?_
          refine a_iload_n (k := 2) dX11_asks_45 rfl rfl ?_
          refine a_iload_n (k := 3) dX11_asks_46 rfl rfl ?_
          refine a_iload (k := 4) dX11_asks_47 rfl ?_
          refine a_bipush dX11_asks_49 (by decide) (by decide) ?_
          refine k_X11_235 rfl dX11_asks_51 (Nat.le_of_ble_eq_true rfl) rfl (Nat.le_of_ble_eq_true rfl) (Nat.le_of_ble_eq_true rfl) (St_ho hg St_399) h (fun x17 n18 μ19 h => ?_)
          exact a_iret dX11_asks_54 rfl (Nat.le_of_ble_eq_true rfl) (Nat.le_of_ble_eq_true rfl) h
        · replace h := h.2 c16
          refine a_iconst dX11_asks_41 (by decide) ?_
          exact a_iret dX11_asks_42 rfl (Nat.le_of_ble_eq_true rfl) (Nat.le_of_ble_eq_true rfl) h
abbrev B_X11_largest_47 (G : GT) (Q : Int → Nat → Mem → Prop) (n : Nat) (μ : Mem) (v1 : Int) (v2 : Int) (v3 : Int) (v4 : Int) (v5 : Int) : Prop := Wa G Y_X11_largest (ZI G Y_X11_largest Q) 0 0 n μ 47 [(0, .inr 399), (1, .inl v1), (2, .inl v2), (3, .inl v3), (4, .inl v4), (5, .inl v5)] []
theorem m_X11_largest {G : GT} (hg : gx G = FX) {n : Nat} {μ : Mem} {Q : Int → Nat → Mem → Prop} {v1 v2 v3 v4 : Int}  (h : (CI G Y_X11_isNode [.inr 399, .inl v1] n (up μ 399 0 0) (fun (x1 : Int) (n2 : Nat) (μ3 : Mem) => ((x1 = 0 → (Q (-1) n2 μ3)) ∧ (¬ (x1 = 0) → (CI G Y_X11_isNode [.inr 399, .inl v2] n2 μ3 (fun (x5 : Int) (n6 : Nat) (μ7 : Mem) => ((x5 = 0 → (Q (-1) n6 μ7)) ∧ (¬ (x5 = 0) → (CI G Y_X11_in [.inl v3, .inl 0, .inl 2] n6 μ7 (fun (x9 : Int) (n10 : Nat) (μ11 : Mem) => ((x9 = 0 → (Q (-1) n10 μ11)) ∧ (¬ (x9 = 0) → (CI G Y_X11_in [.inl v4, .inl 0, .inl 120] n10 μ11 (fun (x13 : Int) (n14 : Nat) (μ15 : Mem) => ((¬ (x13 = 0) → (B_X11_largest_47 G Q n14 μ15 v1 v2 v3 v4 20)) ∧ (x13 = 0 → (Q (-1) n14 μ15)))))))))))))))))) : CI G Y_X11_largest [.inr 399, .inl v1, .inl v2, .inl v3, .inl v4] n μ Q := by
  refine e_I (by decide) (Nat.le_of_ble_eq_true rfl) ?_
  show Wa G Y_X11_largest (ZI G Y_X11_largest Q) 0 0 n μ 0 [(0, .inr 399), (1, .inl v1), (2, .inl v2), (3, .inl v3), (4, .inl v4)] []
  refine a_aload_n (k := 0) dX11_largest_0 rfl rfl ?_
  refine a_iconst dX11_largest_1 (by decide) ?_
  refine p_X11_62 rfl dX11_largest_2 (St_ho hg St_399) (FX_put hg St_399 rfl) ?_
  refine a_aload_n (k := 0) dX11_largest_5 rfl rfl ?_
  refine a_iload_n (k := 1) dX11_largest_6 rfl rfl ?_
  refine k_X11_205 rfl dX11_largest_7 (Nat.le_of_ble_eq_true rfl) rfl (Nat.le_of_ble_eq_true rfl) (Nat.le_of_ble_eq_true rfl) (St_ho hg St_399) h (fun x1 n2 μ3 h => ?_)
  refine a_if_eq (tgt := 41) dX11_largest_10 (by decide) (fun c4 => ?_) (fun c4 => ?_)
  · replace h := h.1 c4
    refine a_iconst dX11_largest_41 (by decide) ?_
    exact a_iret dX11_largest_42 rfl (Nat.le_of_ble_eq_true rfl) (Nat.le_of_ble_eq_true rfl) h
  · replace h := h.2 c4
    refine a_aload_n (k := 0) dX11_largest_13 rfl rfl ?_
    refine a_iload_n (k := 2) dX11_largest_14 rfl rfl ?_
    refine k_X11_205 rfl dX11_largest_15 (Nat.le_of_ble_eq_true rfl) rfl (Nat.le_of_ble_eq_true rfl) (Nat.le_of_ble_eq_true rfl) (St_ho hg St_399) h (fun x5 n6 μ7 h => ?_)
    refine a_if_eq (tgt := 41) dX11_largest_18 (by decide) (fun c8 => ?_) (fun c8 => ?_)
    · replace h := h.1 c8
      refine a_iconst dX11_largest_41 (by decide) ?_
      exact a_iret dX11_largest_42 rfl (Nat.le_of_ble_eq_true rfl) (Nat.le_of_ble_eq_true rfl) h
    · replace h := h.2 c8
      refine a_iload_n (k := 3) dX11_largest_21 rfl rfl ?_
      refine a_iconst dX11_largest_22 (by decide) ?_
      refine a_iconst dX11_largest_23 (by decide) ?_
      refine k_X11_69 rfl dX11_largest_24 (Nat.le_of_ble_eq_true rfl) rfl (Nat.le_of_ble_eq_true rfl) (Nat.le_of_ble_eq_true rfl) h (fun x9 n10 μ11 h => ?_)
      refine a_if_eq (tgt := 41) dX11_largest_27 (by decide) (fun c12 => ?_) (fun c12 => ?_)
      · replace h := h.1 c12
        refine a_iconst dX11_largest_41 (by decide) ?_
        exact a_iret dX11_largest_42 rfl (Nat.le_of_ble_eq_true rfl) (Nat.le_of_ble_eq_true rfl) h
      · replace h := h.2 c12
        refine a_iload (k := 4) dX11_largest_30 rfl ?_
        refine a_iconst dX11_largest_32 (by decide) ?_
        refine a_bipush dX11_largest_33 (by decide) (by decide) ?_
        refine k_X11_69 rfl dX11_largest_35 (Nat.le_of_ble_eq_true rfl) rfl (Nat.le_of_ble_eq_true rfl) (Nat.le_of_ble_eq_true rfl) h (fun x13 n14 μ15 h => ?_)
        refine a_if_ne (tgt := 43) dX11_largest_38 (by decide) (fun c16 => ?_) (fun c16 => ?_)
        · replace h := h.1 c16
          refine a_bipush dX11_largest_43 (by decide) (by decide) ?_
          refine b_istore (L' := [(0, .inr 399), (1, .inl v1), (2, .inl v2), (3, .inl v3), (4, .inl v4), (5, .inl 20)]) [1, 2, 3, 4, 5, 0] dX11_largest_45 (Nat.le_of_ble_eq_true rfl) rfl ?_
          exact h
        · replace h := h.2 c16
          refine a_iconst dX11_largest_41 (by decide) ?_
          exact a_iret dX11_largest_42 rfl (Nat.le_of_ble_eq_true rfl) (Nat.le_of_ble_eq_true rfl) h
theorem b_X11_largest_47 {G : GT} (hg : gx G = FX) {n : Nat} {μ : Mem} {Q : Int → Nat → Mem → Prop} {v1 v2 v3 v4 v5 : Int}  (h : ((v5 ≤ 0 → (Q (-9) n μ)) ∧ (¬ (v5 ≤ 0) → (CI G Y_X11_askedOf [.inr 399, .inl v1, .inl v2, .inl v5, .inl v3, .inl (-9)] n μ (fun (x2 : Int) (n3 : Nat) (μ4 : Mem) => ((x2 = (-9) → ((inR (v5 + (-1))) ∧ (B_X11_largest_47 G Q n3 μ4 v1 v2 v3 v4 (v5 + (-1))))) ∧ (¬ (x2 = (-9)) → ((v4 < x2 → ((inR (v5 + (-1))) ∧ (B_X11_largest_47 G Q n3 μ4 v1 v2 v3 v4 (v5 + (-1))))) ∧ (¬ (v4 < x2) → (Q v5 n3 μ4)))))))))) : B_X11_largest_47 G Q n μ v1 v2 v3 v4 v5 := by
  show Wa G Y_X11_largest (ZI G Y_X11_largest Q) 0 0 n μ 47 [(0, .inr 399), (1, .inl v1), (2, .inl v2), (3, .inl v3), (4, .inl v4), (5, .inl v5)] []
  refine a_iload (k := 5) dX11_largest_47 rfl ?_
  refine a_if_le (tgt := 88) dX11_largest_49 (by decide) (fun c1 => ?_) (fun c1 => ?_)
  · replace h := h.1 c1
    refine a_bipush dX11_largest_88 (by decide) (by decide) ?_
    exact a_iret dX11_largest_90 rfl (Nat.le_of_ble_eq_true rfl) (Nat.le_of_ble_eq_true rfl) h
  · replace h := h.2 c1
    refine a_aload_n (k := 0) dX11_largest_52 rfl rfl ?_
    refine a_iload_n (k := 1) dX11_largest_53 rfl rfl ?_
    refine a_iload_n (k := 2) dX11_largest_54 rfl rfl ?_
    refine a_iload (k := 5) dX11_largest_55 rfl ?_
    refine a_iload_n (k := 3) dX11_largest_57 rfl rfl ?_
    refine a_bipush dX11_largest_58 (by decide) (by decide) ?_
    refine k_X11_235 rfl dX11_largest_60 (Nat.le_of_ble_eq_true rfl) rfl (Nat.le_of_ble_eq_true rfl) (Nat.le_of_ble_eq_true rfl) (St_ho hg St_399) h (fun x2 n3 μ4 h => ?_)
    refine b_istore (L' := [(0, .inr 399), (1, .inl v1), (2, .inl v2), (3, .inl v3), (4, .inl v4), (5, .inl v5), (6, .inl x2)]) [1, 2, 3, 4, 5, 6, 0] dX11_largest_63 (Nat.le_of_ble_eq_true rfl) rfl ?_
    refine a_iload (k := 6) dX11_largest_65 rfl ?_
    refine a_bipush dX11_largest_67 (by decide) (by decide) ?_
    refine a_icmp_eq (tgt := 82) dX11_largest_69 (by decide) (fun c5 => ?_) (fun c5 => ?_)
    · replace h := h.1 c5
      obtain ⟨q6, h⟩ := h
      refine b_iinc (L' := [(0, .inr 399), (1, .inl v1), (2, .inl v2), (3, .inl v3), (4, .inl v4), (5, .inl (v5 + (-1))), (6, .inl x2)]) (k := 5) [1, 2, 3, 4, 5, 0, 6] dX11_largest_82 rfl q6 (Nat.le_of_ble_eq_true rfl) rfl ?_
      refine a_goto (tgt := 47) dX11_largest_85 (by decide) ?_
      refine a_sub [0, 1, 2, 3, 4, 5] rfl ?_
      exact h
    · replace h := h.2 c5
      refine a_iload (k := 6) dX11_largest_72 rfl ?_
      refine a_iload (k := 4) dX11_largest_74 rfl ?_
      refine a_icmp_gt (tgt := 82) dX11_largest_76 (by decide) (fun c7 => ?_) (fun c7 => ?_)
      · replace h := h.1 c7
        obtain ⟨q8, h⟩ := h
        refine b_iinc (L' := [(0, .inr 399), (1, .inl v1), (2, .inl v2), (3, .inl v3), (4, .inl v4), (5, .inl (v5 + (-1))), (6, .inl x2)]) (k := 5) [1, 2, 3, 4, 5, 0, 6] dX11_largest_82 rfl q8 (Nat.le_of_ble_eq_true rfl) rfl ?_
        refine a_goto (tgt := 47) dX11_largest_85 (by decide) ?_
        refine a_sub [0, 1, 2, 3, 4, 5] rfl ?_
        exact h
      · replace h := h.2 c7
        refine a_iload (k := 5) dX11_largest_79 rfl ?_
        exact a_iret dX11_largest_81 rfl (Nat.le_of_ble_eq_true rfl) (Nat.le_of_ble_eq_true rfl) h
abbrev B_X11_worst_26 (G : GT) (Q : Int → Nat → Mem → Prop) (n : Nat) (μ : Mem) (v1 : Int) (v2 : Int) (v3 : Int) : Prop := Wa G Y_X11_worst (ZI G Y_X11_worst Q) 0 0 n μ 26 [(0, .inr 399), (1, .inl v1), (2, .inl v2), (3, .inl v3)] []
abbrev B_X11_worst_65 (G : GT) (Q : Int → Nat → Mem → Prop) (n : Nat) (μ : Mem) (v2 : Int) (v3 : Int) (v4 : Int) (u0 : Int) : Prop := Wa G Y_X11_worst (ZI G Y_X11_worst Q) 0 0 n μ 65 [(0, .inr 399), (2, .inl v2), (3, .inl v3), (4, .inl v4)] [.inl u0]
abbrev B_X11_worst_78 (G : GT) (Q : Int → Nat → Mem → Prop) (n : Nat) (μ : Mem) (v1 : Int) (v3 : Int) (u0 : Int) : Prop := Wa G Y_X11_worst (ZI G Y_X11_worst Q) 0 0 n μ 78 [(0, .inr 399), (1, .inl v1), (3, .inl v3)] [.inl u0]
theorem m_X11_worst {G : GT} (hg : gx G = FX) {n : Nat} {μ : Mem} {Q : Int → Nat → Mem → Prop}  (h : (CV G Y_X11_copies [.inr 399, .inr 402, .inr 406, .inl 0, .inl 0] n (up μ 399 0 0) (fun (n2 : Nat) (μ3 : Mem) => (B_X11_worst_26 G Q n2 μ3 (-9) (-1) 0)))) : CI G Y_X11_worst [.inr 399] n μ Q := by
  refine e_I (by decide) (Nat.le_of_ble_eq_true rfl) ?_
  show Wa G Y_X11_worst (ZI G Y_X11_worst Q) 0 0 n μ 0 [(0, .inr 399)] []
  refine a_aload_n (k := 0) dX11_worst_0 rfl rfl ?_
  refine a_iconst dX11_worst_1 (by decide) ?_
  refine p_X11_62 rfl dX11_worst_2 (St_ho hg St_399) (FX_put hg St_399 rfl) ?_
  refine a_bipush dX11_worst_5 (by decide) (by decide) ?_
  refine b_istore_n (L' := [(0, .inr 399), (1, .inl (-9))]) [1, 0] dX11_worst_7 rfl (Nat.le_of_ble_eq_true rfl) rfl ?_
  refine a_iconst dX11_worst_8 (by decide) ?_
  refine b_istore_n (L' := [(0, .inr 399), (1, .inl (-9)), (2, .inl (-1))]) [1, 2, 0] dX11_worst_9 rfl (Nat.le_of_ble_eq_true rfl) rfl ?_
  refine a_aload_n (k := 0) dX11_worst_10 rfl rfl ?_
  refine a_aload_n (k := 0) dX11_worst_11 rfl rfl ?_
  refine gs_X11_16 rfl dX11_worst_12 hg St_399 ?_
  refine a_aload_n (k := 0) dX11_worst_15 rfl rfl ?_
  refine gs_X11_29 rfl dX11_worst_16 hg St_399 ?_
  refine a_iconst dX11_worst_19 (by decide) ?_
  refine a_iconst dX11_worst_20 (by decide) ?_
  refine k_X11_201 rfl dX11_worst_21 (Nat.le_of_ble_eq_true rfl) rfl (Nat.le_of_ble_eq_true rfl) (Nat.le_of_ble_eq_true rfl) (St_ho hg St_399) h (fun n2 μ3 h => ?_)
  refine a_iconst dX11_worst_24 (by decide) ?_
  refine b_istore_n (L' := [(0, .inr 399), (1, .inl (-9)), (2, .inl (-1)), (3, .inl 0)]) [1, 2, 3, 0] dX11_worst_25 rfl (Nat.le_of_ble_eq_true rfl) rfl ?_
  exact h
theorem b_X11_worst_26 {G : GT} (hg : gx G = FX) {n : Nat} {μ : Mem} {Q : Int → Nat → Mem → Prop} {v1 v2 v3 : Int}  (h : (((μ 399 2) ≤ v3 → (Q v1 n μ)) ∧ (¬ ((μ 399 2) ≤ v3) → (CI G Y_X11_isMissed [.inr 399, .inl v3] n μ (fun (x2 : Int) (n3 : Nat) (μ4 : Mem) => ((¬ (x2 = 0) → ((inR (v3 + 1)) ∧ (B_X11_worst_26 G Q n3 μ4 v1 v2 (v3 + 1)))) ∧ (x2 = 0 → (CV G Y_X11_loses [.inr 399, .inl v3] n3 μ4 (fun (n8 : Nat) (μ9 : Mem) => (CI G Y_X11_countOf [.inr 399, .inl 0] n8 μ9 (fun (x10 : Int) (n11 : Nat) (μ12 : Mem) => ((x10 ≤ v2 → (B_X11_worst_65 G Q n11 μ12 v2 v3 x10 v1)) ∧ (¬ (x10 ≤ v2) → (B_X11_worst_65 G Q n11 μ12 v2 v3 x10 v3)))))))))))))) : B_X11_worst_26 G Q n μ v1 v2 v3 := by
  show Wa G Y_X11_worst (ZI G Y_X11_worst Q) 0 0 n μ 26 [(0, .inr 399), (1, .inl v1), (2, .inl v2), (3, .inl v3)] []
  refine a_iload_n (k := 3) dX11_worst_26 rfl rfl ?_
  refine a_aload_n (k := 0) dX11_worst_27 rfl rfl ?_
  refine g_X11_73 rfl dX11_worst_28 (St_ho hg St_399) ?_
  refine a_icmp_ge (tgt := 99) dX11_worst_31 (by decide) (fun c1 => ?_) (fun c1 => ?_)
  · replace h := h.1 c1
    refine a_iload_n (k := 1) dX11_worst_99 rfl rfl ?_
    exact a_iret dX11_worst_100 rfl (Nat.le_of_ble_eq_true rfl) (Nat.le_of_ble_eq_true rfl) h
  · replace h := h.2 c1
    refine a_aload_n (k := 0) dX11_worst_34 rfl rfl ?_
    refine a_iload_n (k := 3) dX11_worst_35 rfl rfl ?_
    refine k_X11_120 rfl dX11_worst_36 (Nat.le_of_ble_eq_true rfl) rfl (Nat.le_of_ble_eq_true rfl) (Nat.le_of_ble_eq_true rfl) (St_ho hg St_399) h (fun x2 n3 μ4 h => ?_)
    refine a_if_ne (tgt := 93) dX11_worst_39 (by decide) (fun c5 => ?_) (fun c5 => ?_)
    · replace h := h.1 c5
      obtain ⟨q6, h⟩ := h
      refine b_iinc (L' := [(0, .inr 399), (1, .inl v1), (2, .inl v2), (3, .inl (v3 + 1))]) (k := 3) [1, 2, 3, 0] dX11_worst_93 rfl q6 (Nat.le_of_ble_eq_true rfl) rfl ?_
      refine a_goto (tgt := 26) dX11_worst_96 (by decide) ?_
      exact h
    · replace h := h.2 c5
      refine a_aload_n (k := 0) dX11_worst_42 rfl rfl ?_
      refine a_iload_n (k := 3) dX11_worst_43 rfl rfl ?_
      refine k_X11_226 rfl dX11_worst_44 (Nat.le_of_ble_eq_true rfl) rfl (Nat.le_of_ble_eq_true rfl) (Nat.le_of_ble_eq_true rfl) (St_ho hg St_399) h (fun n8 μ9 h => ?_)
      refine a_aload_n (k := 0) dX11_worst_47 rfl rfl ?_
      refine a_iconst dX11_worst_48 (by decide) ?_
      refine k_X11_229 rfl dX11_worst_49 (Nat.le_of_ble_eq_true rfl) rfl (Nat.le_of_ble_eq_true rfl) (Nat.le_of_ble_eq_true rfl) (St_ho hg St_399) h (fun x10 n11 μ12 h => ?_)
      refine b_istore (L' := [(0, .inr 399), (1, .inl v1), (2, .inl v2), (3, .inl v3), (4, .inl x10)]) [1, 2, 3, 4, 0] dX11_worst_52 (Nat.le_of_ble_eq_true rfl) rfl ?_
      refine a_iload (k := 4) dX11_worst_54 rfl ?_
      refine a_iload_n (k := 2) dX11_worst_56 rfl rfl ?_
      refine a_icmp_le (tgt := 64) dX11_worst_57 (by decide) (fun c13 => ?_) (fun c13 => ?_)
      · replace h := h.1 c13
        refine a_iload_n (k := 1) dX11_worst_64 rfl rfl ?_
        refine a_sub [0, 2, 3, 4] rfl ?_
        exact h
      · replace h := h.2 c13
        refine a_iload_n (k := 3) dX11_worst_60 rfl rfl ?_
        refine a_goto (tgt := 65) dX11_worst_61 (by decide) ?_
        refine a_sub [0, 2, 3, 4] rfl ?_
        exact h
theorem b_X11_worst_65 {G : GT} (hg : gx G = FX) {n : Nat} {μ : Mem} {Q : Int → Nat → Mem → Prop} {v2 v3 v4 u0 : Int}  (h : ((v4 ≤ v2 → (B_X11_worst_78 G Q n μ u0 v3 v2)) ∧ (¬ (v4 ≤ v2) → (B_X11_worst_78 G Q n μ u0 v3 v4)))) : B_X11_worst_65 G Q n μ v2 v3 v4 u0 := by
  show Wa G Y_X11_worst (ZI G Y_X11_worst Q) 0 0 n μ 65 [(0, .inr 399), (2, .inl v2), (3, .inl v3), (4, .inl v4)] [.inl u0]
  refine b_istore_n (L' := [(0, .inr 399), (1, .inl u0), (2, .inl v2), (3, .inl v3), (4, .inl v4)]) [1, 0, 2, 3, 4] dX11_worst_65 rfl (Nat.le_of_ble_eq_true rfl) rfl ?_
  refine a_iload (k := 4) dX11_worst_66 rfl ?_
  refine a_iload_n (k := 2) dX11_worst_68 rfl rfl ?_
  refine a_icmp_le (tgt := 77) dX11_worst_69 (by decide) (fun c1 => ?_) (fun c1 => ?_)
  · replace h := h.1 c1
    refine a_iload_n (k := 2) dX11_worst_77 rfl rfl ?_
    refine a_sub [0, 1, 3] rfl ?_
    exact h
  · replace h := h.2 c1
    refine a_iload (k := 4) dX11_worst_72 rfl ?_
    refine a_goto (tgt := 78) dX11_worst_74 (by decide) ?_
    refine a_sub [0, 1, 3] rfl ?_
    exact h
theorem b_X11_worst_78 {G : GT} (hg : gx G = FX) {n : Nat} {μ : Mem} {Q : Int → Nat → Mem → Prop} {v1 v3 u0 : Int}  (h : (CV G Y_X11_copies [.inr 399, .inr 406, .inr 402, .inl 0, .inl 0] n μ (fun (n2 : Nat) (μ3 : Mem) => ((inR (v3 + 1)) ∧ (B_X11_worst_26 G Q n2 μ3 v1 u0 (v3 + 1)))))) : B_X11_worst_78 G Q n μ v1 v3 u0 := by
  show Wa G Y_X11_worst (ZI G Y_X11_worst Q) 0 0 n μ 78 [(0, .inr 399), (1, .inl v1), (3, .inl v3)] [.inl u0]
  refine b_istore_n (L' := [(0, .inr 399), (1, .inl v1), (2, .inl u0), (3, .inl v3)]) [1, 2, 0, 3] dX11_worst_78 rfl (Nat.le_of_ble_eq_true rfl) rfl ?_
  refine a_aload_n (k := 0) dX11_worst_79 rfl rfl ?_
  refine a_aload_n (k := 0) dX11_worst_80 rfl rfl ?_
  refine gs_X11_29 rfl dX11_worst_81 hg St_399 ?_
  refine a_aload_n (k := 0) dX11_worst_84 rfl rfl ?_
  refine gs_X11_16 rfl dX11_worst_85 hg St_399 ?_
  refine a_iconst dX11_worst_88 (by decide) ?_
  refine a_iconst dX11_worst_89 (by decide) ?_
  refine k_X11_201 rfl dX11_worst_90 (Nat.le_of_ble_eq_true rfl) rfl (Nat.le_of_ble_eq_true rfl) (Nat.le_of_ble_eq_true rfl) (St_ho hg St_399) h (fun n2 μ3 h => ?_)
  obtain ⟨q4, h⟩ := h
  refine b_iinc (L' := [(0, .inr 399), (1, .inl v1), (2, .inl u0), (3, .inl (v3 + 1))]) (k := 3) [1, 2, 3, 0] dX11_worst_93 rfl q4 (Nat.le_of_ble_eq_true rfl) rfl ?_
  refine a_goto (tgt := 26) dX11_worst_96 (by decide) ?_
  exact h
theorem m_X11_sees {G : GT} (hg : gx G = FX) {n : Nat} {μ : Mem} {Q : Int → Nat → Mem → Prop} {v1 v2 v3 : Int}  (h : (CI G Y_X11_isNode [.inr 399, .inl v1] n (up μ 399 0 0) (fun (x1 : Int) (n2 : Nat) (μ3 : Mem) => ((x1 = 0 → (Q (-1) n2 μ3)) ∧ (¬ (x1 = 0) → (CI G Y_X11_isNode [.inr 399, .inl v2] n2 μ3 (fun (x5 : Int) (n6 : Nat) (μ7 : Mem) => ((x5 = 0 → (Q (-1) n6 μ7)) ∧ (¬ (x5 = 0) → ((v1 = v2 → (Q (-1) n6 μ7)) ∧ (¬ (v1 = v2) → (CI G Y_X11_in [.inl v3, .inl 0, .inl 121] n6 μ7 (fun (x10 : Int) (n11 : Nat) (μ12 : Mem) => ((¬ (x10 = 0) → ((¬ ((μ12 399 13) = 6) → (((0 : Int) ≤ μ12 399 13 ∧ μ12 399 13 < 6) ∧ (((0 : Int) ≤ (up μ12 407 (μ12 399 13) v1) 399 13 ∧ (up μ12 407 (μ12 399 13) v1) 399 13 < 6) ∧ (((0 : Int) ≤ (up (up μ12 407 (μ12 399 13) v1) 408 ((up μ12 407 (μ12 399 13) v1) 399 13) v2) 399 13 ∧ (up (up μ12 407 (μ12 399 13) v1) 408 ((up μ12 407 (μ12 399 13) v1) 399 13) v2) 399 13 < 6) ∧ ((inR (((up (up (up μ12 407 (μ12 399 13) v1) 408 ((up μ12 407 (μ12 399 13) v1) 399 13) v2) 409 ((up (up μ12 407 (μ12 399 13) v1) 408 ((up μ12 407 (μ12 399 13) v1) 399 13) v2) 399 13) v3) 399 13) + 1)) ∧ (Q ((up (up (up (up μ12 407 (μ12 399 13) v1) 408 ((up μ12 407 (μ12 399 13) v1) 399 13) v2) 409 ((up (up μ12 407 (μ12 399 13) v1) 408 ((up μ12 407 (μ12 399 13) v1) 399 13) v2) 399 13) v3) 399 13 (((up (up (up μ12 407 (μ12 399 13) v1) 408 ((up μ12 407 (μ12 399 13) v1) 399 13) v2) 409 ((up (up μ12 407 (μ12 399 13) v1) 408 ((up μ12 407 (μ12 399 13) v1) 399 13) v2) 399 13) v3) 399 13) + 1)) 399 13) n11 (up (up (up (up μ12 407 (μ12 399 13) v1) 408 ((up μ12 407 (μ12 399 13) v1) 399 13) v2) 409 ((up (up μ12 407 (μ12 399 13) v1) 408 ((up μ12 407 (μ12 399 13) v1) 399 13) v2) 399 13) v3) 399 13 (((up (up (up μ12 407 (μ12 399 13) v1) 408 ((up μ12 407 (μ12 399 13) v1) 399 13) v2) 409 ((up (up μ12 407 (μ12 399 13) v1) 408 ((up μ12 407 (μ12 399 13) v1) 399 13) v2) 399 13) v3) 399 13) + 1)))))))) ∧ ((μ12 399 13) = 6 → (Q (-3) n11 μ12)))) ∧ (x10 = 0 → (Q (-1) n11 μ12)))))))))))))))) : CI G Y_X11_sees [.inr 399, .inl v1, .inl v2, .inl v3] n μ Q := by
  refine e_I (by decide) (Nat.le_of_ble_eq_true rfl) ?_
  show Wa G Y_X11_sees (ZI G Y_X11_sees Q) 0 0 n μ 0 [(0, .inr 399), (1, .inl v1), (2, .inl v2), (3, .inl v3)] []
  refine a_aload_n (k := 0) dX11_sees_0 rfl rfl ?_
  refine a_iconst dX11_sees_1 (by decide) ?_
  refine p_X11_62 rfl dX11_sees_2 (St_ho hg St_399) (FX_put hg St_399 rfl) ?_
  refine a_aload_n (k := 0) dX11_sees_5 rfl rfl ?_
  refine a_iload_n (k := 1) dX11_sees_6 rfl rfl ?_
  refine k_X11_205 rfl dX11_sees_7 (Nat.le_of_ble_eq_true rfl) rfl (Nat.le_of_ble_eq_true rfl) (Nat.le_of_ble_eq_true rfl) (St_ho hg St_399) h (fun x1 n2 μ3 h => ?_)
  refine a_if_eq (tgt := 36) dX11_sees_10 (by decide) (fun c4 => ?_) (fun c4 => ?_)
  · replace h := h.1 c4
    refine a_iconst dX11_sees_36 (by decide) ?_
    exact a_iret dX11_sees_37 rfl (Nat.le_of_ble_eq_true rfl) (Nat.le_of_ble_eq_true rfl) h
  · replace h := h.2 c4
    refine a_aload_n (k := 0) dX11_sees_13 rfl rfl ?_
    refine a_iload_n (k := 2) dX11_sees_14 rfl rfl ?_
    refine k_X11_205 rfl dX11_sees_15 (Nat.le_of_ble_eq_true rfl) rfl (Nat.le_of_ble_eq_true rfl) (Nat.le_of_ble_eq_true rfl) (St_ho hg St_399) h (fun x5 n6 μ7 h => ?_)
    refine a_if_eq (tgt := 36) dX11_sees_18 (by decide) (fun c8 => ?_) (fun c8 => ?_)
    · replace h := h.1 c8
      refine a_iconst dX11_sees_36 (by decide) ?_
      exact a_iret dX11_sees_37 rfl (Nat.le_of_ble_eq_true rfl) (Nat.le_of_ble_eq_true rfl) h
    · replace h := h.2 c8
      refine a_iload_n (k := 1) dX11_sees_21 rfl rfl ?_
      refine a_iload_n (k := 2) dX11_sees_22 rfl rfl ?_
      refine a_icmp_eq (tgt := 36) dX11_sees_23 (by decide) (fun c9 => ?_) (fun c9 => ?_)
      · replace h := h.1 c9
        refine a_iconst dX11_sees_36 (by decide) ?_
        exact a_iret dX11_sees_37 rfl (Nat.le_of_ble_eq_true rfl) (Nat.le_of_ble_eq_true rfl) h
      · replace h := h.2 c9
        refine a_iload_n (k := 3) dX11_sees_26 rfl rfl ?_
        refine a_iconst dX11_sees_27 (by decide) ?_
        refine a_bipush dX11_sees_28 (by decide) (by decide) ?_
        refine k_X11_69 rfl dX11_sees_30 (Nat.le_of_ble_eq_true rfl) rfl (Nat.le_of_ble_eq_true rfl) (Nat.le_of_ble_eq_true rfl) h (fun x10 n11 μ12 h => ?_)
        refine a_if_ne (tgt := 38) dX11_sees_33 (by decide) (fun c13 => ?_) (fun c13 => ?_)
        · replace h := h.1 c13
          refine a_aload_n (k := 0) dX11_sees_38 rfl rfl ?_
          refine g_X11_107 rfl dX11_sees_39 (St_ho hg St_399) ?_
          refine a_bipush dX11_sees_42 (by decide) (by decide) ?_
          refine a_icmp_ne (tgt := 50) dX11_sees_44 (by decide) (fun c14 => ?_) (fun c14 => ?_)
          · replace h := h.1 c14
            refine a_aload_n (k := 0) dX11_sees_50 rfl rfl ?_
            refine gs_X11_32 rfl dX11_sees_51 hg St_399 ?_
            refine a_aload_n (k := 0) dX11_sees_54 rfl rfl ?_
            refine g_X11_107 rfl dX11_sees_55 (St_ho hg St_399) ?_
            refine a_iload_n (k := 1) dX11_sees_58 rfl rfl ?_
            obtain ⟨q15, h⟩ := h
            refine a_iastore dX11_sees_59 (St_ho hg St_407) q15.1 q15.2 (FX_put hg St_407 rfl) ?_
            refine a_aload_n (k := 0) dX11_sees_60 rfl rfl ?_
            refine gs_X11_35 rfl dX11_sees_61 hg St_399 ?_
            refine a_aload_n (k := 0) dX11_sees_64 rfl rfl ?_
            refine g_X11_107 rfl dX11_sees_65 (St_ho hg St_399) ?_
            refine a_iload_n (k := 2) dX11_sees_68 rfl rfl ?_
            obtain ⟨q16, h⟩ := h
            refine a_iastore dX11_sees_69 (St_ho hg St_408) q16.1 q16.2 (FX_put hg St_408 rfl) ?_
            refine a_aload_n (k := 0) dX11_sees_70 rfl rfl ?_
            refine gs_X11_38 rfl dX11_sees_71 hg St_399 ?_
            refine a_aload_n (k := 0) dX11_sees_74 rfl rfl ?_
            refine g_X11_107 rfl dX11_sees_75 (St_ho hg St_399) ?_
            refine a_iload_n (k := 3) dX11_sees_78 rfl rfl ?_
            obtain ⟨q17, h⟩ := h
            refine a_iastore dX11_sees_79 (St_ho hg St_409) q17.1 q17.2 (FX_put hg St_409 rfl) ?_
            refine a_aload_n (k := 0) dX11_sees_80 rfl rfl ?_
            refine a_dup dX11_sees_81 ?_
            refine g_X11_107 rfl dX11_sees_82 (St_ho hg St_399) ?_
            refine a_iconst dX11_sees_85 (by decide) ?_
            obtain ⟨q18, h⟩ := h
            refine a_iadd dX11_sees_86 q18 ?_
            refine p_X11_107 rfl dX11_sees_87 (St_ho hg St_399) (FX_put hg St_399 rfl) ?_
            refine a_aload_n (k := 0) dX11_sees_90 rfl rfl ?_
            refine g_X11_107 rfl dX11_sees_91 (St_ho hg St_399) ?_
            exact a_iret dX11_sees_94 rfl (Nat.le_of_ble_eq_true rfl) (Nat.le_of_ble_eq_true rfl) h
          · replace h := h.2 c14
            refine a_bipush dX11_sees_47 (by decide) (by decide) ?_
            exact a_iret dX11_sees_49 rfl (Nat.le_of_ble_eq_true rfl) (Nat.le_of_ble_eq_true rfl) h
        · replace h := h.2 c13
          refine a_iconst dX11_sees_36 (by decide) ?_
          exact a_iret dX11_sees_37 rfl (Nat.le_of_ble_eq_true rfl) (Nat.le_of_ble_eq_true rfl) h
theorem m_X11_forget {G : GT} (hg : gx G = FX) {n : Nat} {μ : Mem} {Q : Int → Nat → Mem → Prop}  (h : (Q ((up μ 399 0 0) 399 13) n (up (up μ 399 0 0) 399 13 0))) : CI G Y_X11_forget [.inr 399] n μ Q := by
  refine e_I (by decide) (Nat.le_of_ble_eq_true rfl) ?_
  show Wa G Y_X11_forget (ZI G Y_X11_forget Q) 0 0 n μ 0 [(0, .inr 399)] []
  refine a_aload_n (k := 0) dX11_forget_0 rfl rfl ?_
  refine a_iconst dX11_forget_1 (by decide) ?_
  refine p_X11_62 rfl dX11_forget_2 (St_ho hg St_399) (FX_put hg St_399 rfl) ?_
  refine a_aload_n (k := 0) dX11_forget_5 rfl rfl ?_
  refine g_X11_107 rfl dX11_forget_6 (St_ho hg St_399) ?_
  refine b_istore_n (L' := [(0, .inr 399), (1, .inl ((up μ 399 0 0) 399 13))]) [1, 0] dX11_forget_9 rfl (Nat.le_of_ble_eq_true rfl) rfl ?_
  refine a_aload_n (k := 0) dX11_forget_10 rfl rfl ?_
  refine a_iconst dX11_forget_11 (by decide) ?_
  refine p_X11_107 rfl dX11_forget_12 (St_ho hg St_399) (FX_put hg St_399 rfl) ?_
  refine a_iload_n (k := 1) dX11_forget_15 rfl rfl ?_
  exact a_iret dX11_forget_16 rfl (Nat.le_of_ble_eq_true rfl) (Nat.le_of_ble_eq_true rfl) h
abbrev B_X11_unseen_9 (G : GT) (Q : Int → Nat → Mem → Prop) (n : Nat) (μ : Mem) (v1 : Int) (v2 : Int) : Prop := Wa G Y_X11_unseen (ZI G Y_X11_unseen Q) 0 0 n μ 9 [(0, .inr 399), (1, .inl v1), (2, .inl v2)] []
abbrev B_X11_unseen_30 (G : GT) (Q : Int → Nat → Mem → Prop) (n : Nat) (μ : Mem) (v1 : Int) (v2 : Int) (u0 : Int) : Prop := Wa G Y_X11_unseen (ZI G Y_X11_unseen Q) 0 0 n μ 30 [(0, .inr 399), (1, .inl v1), (2, .inl v2)] [.inl u0]
abbrev B_X11_unseen_34 (G : GT) (Q : Int → Nat → Mem → Prop) (n : Nat) (μ : Mem) (v1 : Int) (v2 : Int) (v3 : Int) (v4 : Int) : Prop := Wa G Y_X11_unseen (ZI G Y_X11_unseen Q) 0 0 n μ 34 [(0, .inr 399), (1, .inl v1), (2, .inl v2), (3, .inl v3), (4, .inl v4)] []
abbrev B_X11_unseen_91 (G : GT) (Q : Int → Nat → Mem → Prop) (n : Nat) (μ : Mem) (v1 : Int) (v2 : Int) (v4 : Int) (u0 : Int) (u1 : Int) : Prop := Wa G Y_X11_unseen (ZI G Y_X11_unseen Q) 0 0 n μ 91 [(0, .inr 399), (1, .inl v1), (2, .inl v2), (4, .inl v4)] [.inl u0, .inl u1]
abbrev B_X11_unseen_106 (G : GT) (Q : Int → Nat → Mem → Prop) (n : Nat) (μ : Mem) (v1 : Int) (v2 : Int) (v3 : Int) : Prop := Wa G Y_X11_unseen (ZI G Y_X11_unseen Q) 0 0 n μ 106 [(0, .inr 399), (1, .inl v1), (2, .inl v2), (3, .inl v3)] []
theorem m_X11_unseen {G : GT} (hg : gx G = FX) {n : Nat} {μ : Mem} {Q : Int → Nat → Mem → Prop}  (h : (B_X11_unseen_9 G Q n (up μ 399 0 0) 0 0)) : CI G Y_X11_unseen [.inr 399] n μ Q := by
  refine e_I (by decide) (Nat.le_of_ble_eq_true rfl) ?_
  show Wa G Y_X11_unseen (ZI G Y_X11_unseen Q) 0 0 n μ 0 [(0, .inr 399)] []
  refine a_aload_n (k := 0) dX11_unseen_0 rfl rfl ?_
  refine a_iconst dX11_unseen_1 (by decide) ?_
  refine p_X11_62 rfl dX11_unseen_2 (St_ho hg St_399) (FX_put hg St_399 rfl) ?_
  refine a_iconst dX11_unseen_5 (by decide) ?_
  refine b_istore_n (L' := [(0, .inr 399), (1, .inl 0)]) [1, 0] dX11_unseen_6 rfl (Nat.le_of_ble_eq_true rfl) rfl ?_
  refine a_iconst dX11_unseen_7 (by decide) ?_
  refine b_istore_n (L' := [(0, .inr 399), (1, .inl 0), (2, .inl 0)]) [1, 2, 0] dX11_unseen_8 rfl (Nat.le_of_ble_eq_true rfl) rfl ?_
  exact h
theorem b_X11_unseen_9 {G : GT} (hg : gx G = FX) {n : Nat} {μ : Mem} {Q : Int → Nat → Mem → Prop} {v1 v2 : Int}  (h : (((μ 399 2) ≤ v2 → (Q v1 n μ)) ∧ (¬ ((μ 399 2) ≤ v2) → (CI G Y_X11_isMissed [.inr 399, .inl v2] n μ (fun (x2 : Int) (n3 : Nat) (μ4 : Mem) => ((¬ (x2 = 0) → (B_X11_unseen_30 G Q n3 μ4 v1 v2 0)) ∧ (x2 = 0 → (B_X11_unseen_30 G Q n3 μ4 v1 v2 1)))))))) : B_X11_unseen_9 G Q n μ v1 v2 := by
  show Wa G Y_X11_unseen (ZI G Y_X11_unseen Q) 0 0 n μ 9 [(0, .inr 399), (1, .inl v1), (2, .inl v2)] []
  refine a_iload_n (k := 2) dX11_unseen_9 rfl rfl ?_
  refine a_aload_n (k := 0) dX11_unseen_10 rfl rfl ?_
  refine g_X11_73 rfl dX11_unseen_11 (St_ho hg St_399) ?_
  refine a_icmp_ge (tgt := 126) dX11_unseen_14 (by decide) (fun c1 => ?_) (fun c1 => ?_)
  · replace h := h.1 c1
    refine a_iload_n (k := 1) dX11_unseen_126 rfl rfl ?_
    exact a_iret dX11_unseen_127 rfl (Nat.le_of_ble_eq_true rfl) (Nat.le_of_ble_eq_true rfl) h
  · replace h := h.2 c1
    refine a_aload_n (k := 0) dX11_unseen_17 rfl rfl ?_
    refine a_iload_n (k := 2) dX11_unseen_18 rfl rfl ?_
    refine k_X11_120 rfl dX11_unseen_19 (Nat.le_of_ble_eq_true rfl) rfl (Nat.le_of_ble_eq_true rfl) (Nat.le_of_ble_eq_true rfl) (St_ho hg St_399) h (fun x2 n3 μ4 h => ?_)
    refine a_if_ne (tgt := 29) dX11_unseen_22 (by decide) (fun c5 => ?_) (fun c5 => ?_)
    · replace h := h.1 c5
      refine a_iconst dX11_unseen_29 (by decide) ?_
      exact h
    · replace h := h.2 c5
      refine a_iconst dX11_unseen_25 (by decide) ?_
      refine a_goto (tgt := 30) dX11_unseen_26 (by decide) ?_
      exact h
theorem b_X11_unseen_30 {G : GT} (hg : gx G = FX) {n : Nat} {μ : Mem} {Q : Int → Nat → Mem → Prop} {v1 v2 u0 : Int}  (h : (B_X11_unseen_34 G Q n μ v1 v2 u0 0)) : B_X11_unseen_30 G Q n μ v1 v2 u0 := by
  show Wa G Y_X11_unseen (ZI G Y_X11_unseen Q) 0 0 n μ 30 [(0, .inr 399), (1, .inl v1), (2, .inl v2)] [.inl u0]
  refine b_istore_n (L' := [(0, .inr 399), (1, .inl v1), (2, .inl v2), (3, .inl u0)]) [1, 2, 3, 0] dX11_unseen_30 rfl (Nat.le_of_ble_eq_true rfl) rfl ?_
  refine a_iconst dX11_unseen_31 (by decide) ?_
  refine b_istore (L' := [(0, .inr 399), (1, .inl v1), (2, .inl v2), (3, .inl u0), (4, .inl 0)]) [1, 2, 3, 4, 0] dX11_unseen_32 (Nat.le_of_ble_eq_true rfl) rfl ?_
  exact h
theorem b_X11_unseen_34 {G : GT} (hg : gx G = FX) {n : Nat} {μ : Mem} {Q : Int → Nat → Mem → Prop} {v1 v2 v3 v4 : Int}  (h : (((μ 399 13) ≤ v4 → (B_X11_unseen_106 G Q n μ v1 v2 v3)) ∧ (¬ ((μ 399 13) ≤ v4) → ((v3 = 0 → (B_X11_unseen_106 G Q n μ v1 v2 v3)) ∧ (¬ (v3 = 0) → (((0 : Int) ≤ v4 ∧ v4 < 6) ∧ (((0 : Int) ≤ v4 ∧ v4 < 6) ∧ (CI G Y_X11_askedOf [.inr 399, .inl (μ 407 v4), .inl (μ 408 v4), .inl 1, .inl 2, .inl v2] n μ (fun (x5 : Int) (n6 : Nat) (μ7 : Mem) => (((0 : Int) ≤ v4 ∧ v4 < 6) ∧ ((¬ (x5 = (-9)) → (B_X11_unseen_91 G Q n6 μ7 v1 v2 v4 x5 (μ7 409 v4))) ∧ (x5 = (-9) → (B_X11_unseen_91 G Q n6 μ7 v1 v2 v4 121 (μ7 409 v4)))))))))))))) : B_X11_unseen_34 G Q n μ v1 v2 v3 v4 := by
  show Wa G Y_X11_unseen (ZI G Y_X11_unseen Q) 0 0 n μ 34 [(0, .inr 399), (1, .inl v1), (2, .inl v2), (3, .inl v3), (4, .inl v4)] []
  refine a_iload (k := 4) dX11_unseen_34 rfl ?_
  refine a_aload_n (k := 0) dX11_unseen_36 rfl rfl ?_
  refine g_X11_107 rfl dX11_unseen_37 (St_ho hg St_399) ?_
  refine a_icmp_ge (tgt := 106) dX11_unseen_40 (by decide) (fun c1 => ?_) (fun c1 => ?_)
  · replace h := h.1 c1
    refine a_sub [0, 1, 2, 3] rfl ?_
    exact h
  · replace h := h.2 c1
    refine a_iload_n (k := 3) dX11_unseen_43 rfl rfl ?_
    refine a_if_eq (tgt := 106) dX11_unseen_44 (by decide) (fun c2 => ?_) (fun c2 => ?_)
    · replace h := h.1 c2
      refine a_sub [0, 1, 2, 3] rfl ?_
      exact h
    · replace h := h.2 c2
      refine a_aload_n (k := 0) dX11_unseen_47 rfl rfl ?_
      refine a_aload_n (k := 0) dX11_unseen_48 rfl rfl ?_
      refine gs_X11_32 rfl dX11_unseen_49 hg St_399 ?_
      refine a_iload (k := 4) dX11_unseen_52 rfl ?_
      obtain ⟨q3, h⟩ := h
      refine a_iaload dX11_unseen_54 (St_ho hg St_407) q3.1 q3.2 ?_
      refine a_aload_n (k := 0) dX11_unseen_55 rfl rfl ?_
      refine gs_X11_35 rfl dX11_unseen_56 hg St_399 ?_
      refine a_iload (k := 4) dX11_unseen_59 rfl ?_
      obtain ⟨q4, h⟩ := h
      refine a_iaload dX11_unseen_61 (St_ho hg St_408) q4.1 q4.2 ?_
      refine a_iconst dX11_unseen_62 (by decide) ?_
      refine a_iconst dX11_unseen_63 (by decide) ?_
      refine a_iload_n (k := 2) dX11_unseen_64 rfl rfl ?_
      refine k_X11_235 rfl dX11_unseen_65 (Nat.le_of_ble_eq_true rfl) rfl (Nat.le_of_ble_eq_true rfl) (Nat.le_of_ble_eq_true rfl) (St_ho hg St_399) h (fun x5 n6 μ7 h => ?_)
      refine b_istore (L' := [(0, .inr 399), (1, .inl v1), (2, .inl v2), (3, .inl v3), (4, .inl v4), (5, .inl x5)]) [1, 2, 3, 4, 5, 0] dX11_unseen_68 (Nat.le_of_ble_eq_true rfl) rfl ?_
      refine a_aload_n (k := 0) dX11_unseen_70 rfl rfl ?_
      refine gs_X11_38 rfl dX11_unseen_71 hg St_399 ?_
      refine a_iload (k := 4) dX11_unseen_74 rfl ?_
      obtain ⟨q8, h⟩ := h
      refine a_iaload dX11_unseen_76 (St_ho hg St_409) q8.1 q8.2 ?_
      refine a_iload (k := 5) dX11_unseen_77 rfl ?_
      refine a_bipush dX11_unseen_79 (by decide) (by decide) ?_
      refine a_icmp_ne (tgt := 89) dX11_unseen_81 (by decide) (fun c9 => ?_) (fun c9 => ?_)
      · replace h := h.1 c9
        refine a_iload (k := 5) dX11_unseen_89 rfl ?_
        refine a_sub [0, 1, 2, 4] rfl ?_
        exact h
      · replace h := h.2 c9
        refine a_bipush dX11_unseen_84 (by decide) (by decide) ?_
        refine a_goto (tgt := 91) dX11_unseen_86 (by decide) ?_
        refine a_sub [0, 1, 2, 4] rfl ?_
        exact h
theorem b_X11_unseen_91 {G : GT} (hg : gx G = FX) {n : Nat} {μ : Mem} {Q : Int → Nat → Mem → Prop} {v1 v2 v4 u0 u1 : Int}  (h : ((¬ (u1 = u0) → ((inR (v4 + 1)) ∧ (B_X11_unseen_34 G Q n μ v1 v2 0 (v4 + 1)))) ∧ (u1 = u0 → ((inR (v4 + 1)) ∧ (B_X11_unseen_34 G Q n μ v1 v2 1 (v4 + 1)))))) : B_X11_unseen_91 G Q n μ v1 v2 v4 u0 u1 := by
  show Wa G Y_X11_unseen (ZI G Y_X11_unseen Q) 0 0 n μ 91 [(0, .inr 399), (1, .inl v1), (2, .inl v2), (4, .inl v4)] [.inl u0, .inl u1]
  refine a_icmp_ne (tgt := 98) dX11_unseen_91 (by decide) (fun c1 => ?_) (fun c1 => ?_)
  · replace h := h.1 c1
    refine a_iconst dX11_unseen_98 (by decide) ?_
    refine b_istore_n (L' := [(0, .inr 399), (1, .inl v1), (2, .inl v2), (3, .inl 0), (4, .inl v4)]) [1, 2, 3, 0, 4] dX11_unseen_99 rfl (Nat.le_of_ble_eq_true rfl) rfl ?_
    obtain ⟨q2, h⟩ := h
    refine b_iinc (L' := [(0, .inr 399), (1, .inl v1), (2, .inl v2), (3, .inl 0), (4, .inl (v4 + 1))]) (k := 4) [1, 2, 3, 4, 0] dX11_unseen_100 rfl q2 (Nat.le_of_ble_eq_true rfl) rfl ?_
    refine a_goto (tgt := 34) dX11_unseen_103 (by decide) ?_
    exact h
  · replace h := h.2 c1
    refine a_iconst dX11_unseen_94 (by decide) ?_
    refine a_goto (tgt := 99) dX11_unseen_95 (by decide) ?_
    refine b_istore_n (L' := [(0, .inr 399), (1, .inl v1), (2, .inl v2), (3, .inl 1), (4, .inl v4)]) [1, 2, 3, 0, 4] dX11_unseen_99 rfl (Nat.le_of_ble_eq_true rfl) rfl ?_
    obtain ⟨q3, h⟩ := h
    refine b_iinc (L' := [(0, .inr 399), (1, .inl v1), (2, .inl v2), (3, .inl 1), (4, .inl (v4 + 1))]) (k := 4) [1, 2, 3, 4, 0] dX11_unseen_100 rfl q3 (Nat.le_of_ble_eq_true rfl) rfl ?_
    refine a_goto (tgt := 34) dX11_unseen_103 (by decide) ?_
    exact h
theorem b_X11_unseen_106 {G : GT} (hg : gx G = FX) {n : Nat} {μ : Mem} {Q : Int → Nat → Mem → Prop} {v1 v2 v3 : Int}  (h : ((v3 = 0 → ((inR (v2 + 1)) ∧ (B_X11_unseen_9 G Q n μ (iOr v1 0) (v2 + 1)))) ∧ (¬ (v3 = 0) → ((inR (v2 + 1)) ∧ (B_X11_unseen_9 G Q n μ (iOr v1 (iShl 1 v2)) (v2 + 1)))))) : B_X11_unseen_106 G Q n μ v1 v2 v3 := by
  show Wa G Y_X11_unseen (ZI G Y_X11_unseen Q) 0 0 n μ 106 [(0, .inr 399), (1, .inl v1), (2, .inl v2), (3, .inl v3)] []
  refine a_iload_n (k := 1) dX11_unseen_106 rfl rfl ?_
  refine a_iload_n (k := 3) dX11_unseen_107 rfl rfl ?_
  refine a_if_eq (tgt := 117) dX11_unseen_108 (by decide) (fun c1 => ?_) (fun c1 => ?_)
  · replace h := h.1 c1
    refine a_iconst dX11_unseen_117 (by decide) ?_
    refine a_ior dX11_unseen_118 ?_
    refine b_istore_n (L' := [(0, .inr 399), (1, .inl (iOr v1 0)), (2, .inl v2), (3, .inl v3)]) [1, 0, 2, 3] dX11_unseen_119 rfl (Nat.le_of_ble_eq_true rfl) rfl ?_
    obtain ⟨q2, h⟩ := h
    refine b_iinc (L' := [(0, .inr 399), (1, .inl (iOr v1 0)), (2, .inl (v2 + 1)), (3, .inl v3)]) (k := 2) [1, 2, 0, 3] dX11_unseen_120 rfl q2 (Nat.le_of_ble_eq_true rfl) rfl ?_
    refine a_goto (tgt := 9) dX11_unseen_123 (by decide) ?_
    refine a_sub [0, 1, 2] rfl ?_
    exact h
  · replace h := h.2 c1
    refine a_iconst dX11_unseen_111 (by decide) ?_
    refine a_iload_n (k := 2) dX11_unseen_112 rfl rfl ?_
    refine a_ishl dX11_unseen_113 ?_
    refine a_goto (tgt := 118) dX11_unseen_114 (by decide) ?_
    refine a_ior dX11_unseen_118 ?_
    refine b_istore_n (L' := [(0, .inr 399), (1, .inl (iOr v1 (iShl 1 v2))), (2, .inl v2), (3, .inl v3)]) [1, 0, 2, 3] dX11_unseen_119 rfl (Nat.le_of_ble_eq_true rfl) rfl ?_
    obtain ⟨q3, h⟩ := h
    refine b_iinc (L' := [(0, .inr 399), (1, .inl (iOr v1 (iShl 1 v2))), (2, .inl (v2 + 1)), (3, .inl v3)]) (k := 2) [1, 2, 0, 3] dX11_unseen_120 rfl q3 (Nat.le_of_ble_eq_true rfl) rfl ?_
    refine a_goto (tgt := 9) dX11_unseen_123 (by decide) ?_
    refine a_sub [0, 1, 2] rfl ?_
    exact h
theorem m_X11_keep {G : GT} (hg : gx G = FX) {n : Nat} {μ : Mem} {Q : Int → Nat → Mem → Prop} {v1 : Int}  (h : (CI G Y_X11_in [.inl v1, .inl 0, .inl 1] n (up μ 399 0 0) (fun (x1 : Int) (n2 : Nat) (μ3 : Mem) => ((¬ (x1 = 0) → ((inR (163 * v1)) ∧ (CV G Y_X11_copies [.inr 399, .inr 402, .inr 404, .inl 0, .inl (163 * v1)] n2 μ3 (fun (n7 : Nat) (μ8 : Mem) => (((0 : Int) ≤ v1 ∧ v1 < 2) ∧ (Q ((up μ8 405 v1 1) 402 2) n7 (up μ8 405 v1 1))))))) ∧ (x1 = 0 → (Q (-1) n2 μ3)))))) : CI G Y_X11_keep [.inr 399, .inl v1] n μ Q := by
  refine e_I (by decide) (Nat.le_of_ble_eq_true rfl) ?_
  show Wa G Y_X11_keep (ZI G Y_X11_keep Q) 0 0 n μ 0 [(0, .inr 399), (1, .inl v1)] []
  refine a_aload_n (k := 0) dX11_keep_0 rfl rfl ?_
  refine a_iconst dX11_keep_1 (by decide) ?_
  refine p_X11_62 rfl dX11_keep_2 (St_ho hg St_399) (FX_put hg St_399 rfl) ?_
  refine a_iload_n (k := 1) dX11_keep_5 rfl rfl ?_
  refine a_iconst dX11_keep_6 (by decide) ?_
  refine a_iconst dX11_keep_7 (by decide) ?_
  refine k_X11_69 rfl dX11_keep_8 (Nat.le_of_ble_eq_true rfl) rfl (Nat.le_of_ble_eq_true rfl) (Nat.le_of_ble_eq_true rfl) h (fun x1 n2 μ3 h => ?_)
  refine a_if_ne (tgt := 16) dX11_keep_11 (by decide) (fun c4 => ?_) (fun c4 => ?_)
  · replace h := h.1 c4
    refine a_aload_n (k := 0) dX11_keep_16 rfl rfl ?_
    refine a_aload_n (k := 0) dX11_keep_17 rfl rfl ?_
    refine gs_X11_16 rfl dX11_keep_18 hg St_399 ?_
    refine a_aload_n (k := 0) dX11_keep_21 rfl rfl ?_
    refine gs_X11_22 rfl dX11_keep_22 hg St_399 ?_
    refine a_iconst dX11_keep_25 (by decide) ?_
    refine a_sipush dX11_keep_26 (by decide) (by decide) ?_
    refine a_iload_n (k := 1) dX11_keep_29 rfl rfl ?_
    obtain ⟨q5, h⟩ := h
    refine a_imul dX11_keep_30 q5 ?_
    refine k_X11_201 rfl dX11_keep_31 (Nat.le_of_ble_eq_true rfl) rfl (Nat.le_of_ble_eq_true rfl) (Nat.le_of_ble_eq_true rfl) (St_ho hg St_399) h (fun n7 μ8 h => ?_)
    refine a_aload_n (k := 0) dX11_keep_34 rfl rfl ?_
    refine gs_X11_25 rfl dX11_keep_35 hg St_399 ?_
    refine a_iload_n (k := 1) dX11_keep_38 rfl rfl ?_
    refine a_iconst dX11_keep_39 (by decide) ?_
    obtain ⟨q9, h⟩ := h
    refine a_zastore dX11_keep_40 (St_ho hg St_405) q9.1 q9.2 (by decide) (FX_put hg St_405 rfl) ?_
    refine a_aload_n (k := 0) dX11_keep_41 rfl rfl ?_
    refine gs_X11_16 rfl dX11_keep_42 hg St_399 ?_
    refine a_iconst dX11_keep_45 (by decide) ?_
    refine a_iaload dX11_keep_46 (St_ho hg St_402) (by decide) (by decide) ?_
    exact a_iret dX11_keep_47 rfl (Nat.le_of_ble_eq_true rfl) (Nat.le_of_ble_eq_true rfl) h
  · replace h := h.2 c4
    refine a_iconst dX11_keep_14 (by decide) ?_
    exact a_iret dX11_keep_15 rfl (Nat.le_of_ble_eq_true rfl) (Nat.le_of_ble_eq_true rfl) h
theorem m_X11_back {G : GT} (hg : gx G = FX) {n : Nat} {μ : Mem} {Q : Int → Nat → Mem → Prop} {v1 : Int}  (h : (CI G Y_X11_in [.inl v1, .inl 0, .inl 1] n (up μ 399 0 0) (fun (x1 : Int) (n2 : Nat) (μ3 : Mem) => ((¬ (x1 = 0) → (((0 : Int) ≤ v1 ∧ v1 < 2) ∧ ((μ3 405 v1 = 0 ∨ μ3 405 v1 = 1) → ((¬ ((μ3 405 v1) = 0) → ((inR (163 * v1)) ∧ (CV G Y_X11_copies [.inr 399, .inr 404, .inr 402, .inl (163 * v1), .inl 0] n2 μ3 (fun (n10 : Nat) (μ11 : Mem) => (Q ((up μ11 399 8 0) 402 2) n10 (up μ11 399 8 0)))))) ∧ ((μ3 405 v1) = 0 → (Q (-2) n2 μ3)))))) ∧ (x1 = 0 → (Q (-1) n2 μ3)))))) : CI G Y_X11_back [.inr 399, .inl v1] n μ Q := by
  refine e_I (by decide) (Nat.le_of_ble_eq_true rfl) ?_
  show Wa G Y_X11_back (ZI G Y_X11_back Q) 0 0 n μ 0 [(0, .inr 399), (1, .inl v1)] []
  refine a_aload_n (k := 0) dX11_back_0 rfl rfl ?_
  refine a_iconst dX11_back_1 (by decide) ?_
  refine p_X11_62 rfl dX11_back_2 (St_ho hg St_399) (FX_put hg St_399 rfl) ?_
  refine a_iload_n (k := 1) dX11_back_5 rfl rfl ?_
  refine a_iconst dX11_back_6 (by decide) ?_
  refine a_iconst dX11_back_7 (by decide) ?_
  refine k_X11_69 rfl dX11_back_8 (Nat.le_of_ble_eq_true rfl) rfl (Nat.le_of_ble_eq_true rfl) (Nat.le_of_ble_eq_true rfl) h (fun x1 n2 μ3 h => ?_)
  refine a_if_ne (tgt := 16) dX11_back_11 (by decide) (fun c4 => ?_) (fun c4 => ?_)
  · replace h := h.1 c4
    refine a_aload_n (k := 0) dX11_back_16 rfl rfl ?_
    refine gs_X11_25 rfl dX11_back_17 hg St_399 ?_
    refine a_iload_n (k := 1) dX11_back_20 rfl rfl ?_
    obtain ⟨q6, h⟩ := h
    refine a_zaload dX11_back_21 (St_ho hg St_405) q6.1 q6.2 (fun z5 => ?_)
    replace h := h z5
    refine a_if_ne (tgt := 28) dX11_back_22 (by decide) (fun c7 => ?_) (fun c7 => ?_)
    · replace h := h.1 c7
      refine a_aload_n (k := 0) dX11_back_28 rfl rfl ?_
      refine a_aload_n (k := 0) dX11_back_29 rfl rfl ?_
      refine gs_X11_22 rfl dX11_back_30 hg St_399 ?_
      refine a_aload_n (k := 0) dX11_back_33 rfl rfl ?_
      refine gs_X11_16 rfl dX11_back_34 hg St_399 ?_
      refine a_sipush dX11_back_37 (by decide) (by decide) ?_
      refine a_iload_n (k := 1) dX11_back_40 rfl rfl ?_
      obtain ⟨q8, h⟩ := h
      refine a_imul dX11_back_41 q8 ?_
      refine a_iconst dX11_back_42 (by decide) ?_
      refine k_X11_201 rfl dX11_back_43 (Nat.le_of_ble_eq_true rfl) rfl (Nat.le_of_ble_eq_true rfl) (Nat.le_of_ble_eq_true rfl) (St_ho hg St_399) h (fun n10 μ11 h => ?_)
      refine a_aload_n (k := 0) dX11_back_46 rfl rfl ?_
      refine a_iconst dX11_back_47 (by decide) ?_
      refine p_X11_104 rfl dX11_back_48 (St_ho hg St_399) (FX_put hg St_399 rfl) ?_
      refine a_aload_n (k := 0) dX11_back_51 rfl rfl ?_
      refine gs_X11_16 rfl dX11_back_52 hg St_399 ?_
      refine a_iconst dX11_back_55 (by decide) ?_
      refine a_iaload dX11_back_56 (St_ho hg St_402) (by decide) (by decide) ?_
      exact a_iret dX11_back_57 rfl (Nat.le_of_ble_eq_true rfl) (Nat.le_of_ble_eq_true rfl) h
    · replace h := h.2 c7
      refine a_bipush dX11_back_25 (by decide) (by decide) ?_
      exact a_iret dX11_back_27 rfl (Nat.le_of_ble_eq_true rfl) (Nat.le_of_ble_eq_true rfl) h
  · replace h := h.2 c4
    refine a_iconst dX11_back_14 (by decide) ?_
    exact a_iret dX11_back_15 rfl (Nat.le_of_ble_eq_true rfl) (Nat.le_of_ble_eq_true rfl) h
theorem m_X11_count {G : GT} (hg : gx G = FX) {n : Nat} {μ : Mem} {Q : Int → Nat → Mem → Prop} {v1 : Int}  (h : (((v1 < 0 ∨ 8 < v1) → (Q (-1) n (up μ 399 0 0))) ∧ (v1 = 0 → (Q ((up μ 399 0 0) 399 1) n (up μ 399 0 0))) ∧ (v1 = 1 → (Q ((up μ 399 0 0) 399 2) n (up μ 399 0 0))) ∧ (v1 = 2 → (Q ((up μ 399 0 0) 402 2) n (up μ 399 0 0))) ∧ (v1 = 3 → (Q ((up μ 399 0 0) 402 0) n (up μ 399 0 0))) ∧ (v1 = 4 → (CI G Y_X11_countOf [.inr 399, .inl 0] n (up μ 399 0 0) (fun (x4 : Int) (n5 : Nat) (μ6 : Mem) => (Q x4 n5 μ6)))) ∧ (v1 = 5 → (CI G Y_X11_countOf [.inr 399, .inl 1] n (up μ 399 0 0) (fun (x7 : Int) (n8 : Nat) (μ9 : Mem) => (Q x7 n8 μ9)))) ∧ (v1 = 6 → (Q ((up μ 399 0 0) 399 13) n (up μ 399 0 0))) ∧ (v1 = 7 → (Q ((up μ 399 0 0) 399 17) n (up μ 399 0 0))) ∧ (v1 = 8 → (Q ((up μ 399 0 0) 399 8) n (up μ 399 0 0))))) : CI G Y_X11_count [.inr 399, .inl v1] n μ Q := by
  refine e_I (by decide) (Nat.le_of_ble_eq_true rfl) ?_
  show Wa G Y_X11_count (ZI G Y_X11_count Q) 0 0 n μ 0 [(0, .inr 399), (1, .inl v1)] []
  refine a_aload_n (k := 0) dX11_count_0 rfl rfl ?_
  refine a_iconst dX11_count_1 (by decide) ?_
  refine p_X11_62 rfl dX11_count_2 (St_ho hg St_399) (FX_put hg St_399 rfl) ?_
  refine a_iload_n (k := 1) dX11_count_5 rfl rfl ?_
  refine a_table (tgt := 107) dX11_count_6 (by decide) (fun c1 c2 => ?_) (fun c1 => ?_)
  · rcases (show v1 = 0 ∨ v1 = 1 ∨ v1 = 2 ∨ v1 = 3 ∨ v1 = 4 ∨ v1 = 5 ∨ v1 = 6 ∨ v1 = 7 ∨ v1 = 8 by omega) with e3 | e3 | e3 | e3 | e3 | e3 | e3 | e3 | e3
    · replace h := h.2.1 e3
      refine ⟨50, 56, by rw [e3]; rfl, by decide, ?_⟩
      refine a_aload_n (k := 0) dX11_count_56 rfl rfl ?_
      refine g_X11_66 rfl dX11_count_57 (St_ho hg St_399) ?_
      exact a_iret dX11_count_60 rfl (Nat.le_of_ble_eq_true rfl) (Nat.le_of_ble_eq_true rfl) h
    · replace h := h.2.2.1 e3
      refine ⟨55, 61, by rw [e3]; rfl, by decide, ?_⟩
      refine a_aload_n (k := 0) dX11_count_61 rfl rfl ?_
      refine g_X11_73 rfl dX11_count_62 (St_ho hg St_399) ?_
      exact a_iret dX11_count_65 rfl (Nat.le_of_ble_eq_true rfl) (Nat.le_of_ble_eq_true rfl) h
    · replace h := h.2.2.2.1 e3
      refine ⟨60, 66, by rw [e3]; rfl, by decide, ?_⟩
      refine a_aload_n (k := 0) dX11_count_66 rfl rfl ?_
      refine gs_X11_16 rfl dX11_count_67 hg St_399 ?_
      refine a_iconst dX11_count_70 (by decide) ?_
      refine a_iaload dX11_count_71 (St_ho hg St_402) (by decide) (by decide) ?_
      exact a_iret dX11_count_72 rfl (Nat.le_of_ble_eq_true rfl) (Nat.le_of_ble_eq_true rfl) h
    · replace h := h.2.2.2.2.1 e3
      refine ⟨67, 73, by rw [e3]; rfl, by decide, ?_⟩
      refine a_aload_n (k := 0) dX11_count_73 rfl rfl ?_
      refine gs_X11_16 rfl dX11_count_74 hg St_399 ?_
      refine a_iconst dX11_count_77 (by decide) ?_
      refine a_iaload dX11_count_78 (St_ho hg St_402) (by decide) (by decide) ?_
      exact a_iret dX11_count_79 rfl (Nat.le_of_ble_eq_true rfl) (Nat.le_of_ble_eq_true rfl) h
    · replace h := h.2.2.2.2.2.1 e3
      refine ⟨74, 80, by rw [e3]; rfl, by decide, ?_⟩
      refine a_aload_n (k := 0) dX11_count_80 rfl rfl ?_
      refine a_iconst dX11_count_81 (by decide) ?_
      refine k_X11_229 rfl dX11_count_82 (Nat.le_of_ble_eq_true rfl) rfl (Nat.le_of_ble_eq_true rfl) (Nat.le_of_ble_eq_true rfl) (St_ho hg St_399) h (fun x4 n5 μ6 h => ?_)
      exact a_iret dX11_count_85 rfl (Nat.le_of_ble_eq_true rfl) (Nat.le_of_ble_eq_true rfl) h
    · replace h := h.2.2.2.2.2.2.1 e3
      refine ⟨80, 86, by rw [e3]; rfl, by decide, ?_⟩
      refine a_aload_n (k := 0) dX11_count_86 rfl rfl ?_
      refine a_iconst dX11_count_87 (by decide) ?_
      refine k_X11_229 rfl dX11_count_88 (Nat.le_of_ble_eq_true rfl) rfl (Nat.le_of_ble_eq_true rfl) (Nat.le_of_ble_eq_true rfl) (St_ho hg St_399) h (fun x7 n8 μ9 h => ?_)
      exact a_iret dX11_count_91 rfl (Nat.le_of_ble_eq_true rfl) (Nat.le_of_ble_eq_true rfl) h
    · replace h := h.2.2.2.2.2.2.2.1 e3
      refine ⟨86, 92, by rw [e3]; rfl, by decide, ?_⟩
      refine a_aload_n (k := 0) dX11_count_92 rfl rfl ?_
      refine g_X11_107 rfl dX11_count_93 (St_ho hg St_399) ?_
      exact a_iret dX11_count_96 rfl (Nat.le_of_ble_eq_true rfl) (Nat.le_of_ble_eq_true rfl) h
    · replace h := h.2.2.2.2.2.2.2.2.1 e3
      refine ⟨91, 97, by rw [e3]; rfl, by decide, ?_⟩
      refine a_aload_n (k := 0) dX11_count_97 rfl rfl ?_
      refine g_X11_76 rfl dX11_count_98 (St_ho hg St_399) ?_
      exact a_iret dX11_count_101 rfl (Nat.le_of_ble_eq_true rfl) (Nat.le_of_ble_eq_true rfl) h
    · replace h := h.2.2.2.2.2.2.2.2.2 e3
      refine ⟨96, 102, by rw [e3]; rfl, by decide, ?_⟩
      refine a_aload_n (k := 0) dX11_count_102 rfl rfl ?_
      refine g_X11_104 rfl dX11_count_103 (St_ho hg St_399) ?_
      exact a_iret dX11_count_106 rfl (Nat.le_of_ble_eq_true rfl) (Nat.le_of_ble_eq_true rfl) h
  · replace h := h.1 c1
    refine a_iconst dX11_count_107 (by decide) ?_
    exact a_iret dX11_count_108 rfl (Nat.le_of_ble_eq_true rfl) (Nat.le_of_ble_eq_true rfl) h
