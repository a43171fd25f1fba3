-- 084.model: decode rows and blocks (by program, wip/gen)
theorem dX11_in_0 : decode cX11_in 0 = .ok (.iload_n 0, 1) := by decide +kernel
theorem dX11_in_1 : decode cX11_in 1 = .ok (.iload_n 1, 1) := by decide +kernel
theorem dX11_in_2 : decode cX11_in 2 = .ok (.if_icmp .lt 12, 3) := by decide +kernel
theorem dX11_in_5 : decode cX11_in 5 = .ok (.iload_n 0, 1) := by decide +kernel
theorem dX11_in_6 : decode cX11_in 6 = .ok (.iload_n 2, 1) := by decide +kernel
theorem dX11_in_7 : decode cX11_in 7 = .ok (.if_icmp .gt 7, 3) := by decide +kernel
theorem dX11_in_10 : decode cX11_in 10 = .ok (.iconst 1, 1) := by decide +kernel
theorem dX11_in_11 : decode cX11_in 11 = .ok (.goto 4, 3) := by decide +kernel
theorem dX11_in_14 : decode cX11_in 14 = .ok (.iconst 0, 1) := by decide +kernel
theorem dX11_in_15 : decode cX11_in 15 = .ok (.ireturn, 1) := by decide +kernel
theorem dX11_isNode_0 : decode cX11_isNode 0 = .ok (.iload_n 1, 1) := by decide +kernel
theorem dX11_isNode_1 : decode cX11_isNode 1 = .ok (.iconst 0, 1) := by decide +kernel
theorem dX11_isNode_2 : decode cX11_isNode 2 = .ok (.aload_n 0, 1) := by decide +kernel
theorem dX11_isNode_3 : decode cX11_isNode 3 = .ok (.getfield 66, 3) := by decide +kernel
theorem dX11_isNode_6 : decode cX11_isNode 6 = .ok (.iconst 1, 1) := by decide +kernel
theorem dX11_isNode_7 : decode cX11_isNode 7 = .ok (.isub, 1) := by decide +kernel
theorem dX11_isNode_8 : decode cX11_isNode 8 = .ok (.invokestatic 69, 3) := by decide +kernel
theorem dX11_isNode_11 : decode cX11_isNode 11 = .ok (.ireturn, 1) := by decide +kernel
theorem dX11_isContact_0 : decode cX11_isContact 0 = .ok (.iload_n 1, 1) := by decide +kernel
theorem dX11_isContact_1 : decode cX11_isContact 1 = .ok (.iconst 0, 1) := by decide +kernel
theorem dX11_isContact_2 : decode cX11_isContact 2 = .ok (.aload_n 0, 1) := by decide +kernel
theorem dX11_isContact_3 : decode cX11_isContact 3 = .ok (.getfield 73, 3) := by decide +kernel
theorem dX11_isContact_6 : decode cX11_isContact 6 = .ok (.iconst 1, 1) := by decide +kernel
theorem dX11_isContact_7 : decode cX11_isContact 7 = .ok (.isub, 1) := by decide +kernel
theorem dX11_isContact_8 : decode cX11_isContact 8 = .ok (.invokestatic 69, 3) := by decide +kernel
theorem dX11_isContact_11 : decode cX11_isContact 11 = .ok (.ireturn, 1) := by decide +kernel
theorem dX11_isBundle_0 : decode cX11_isBundle 0 = .ok (.iload_n 1, 1) := by decide +kernel
theorem dX11_isBundle_1 : decode cX11_isBundle 1 = .ok (.iconst 0, 1) := by decide +kernel
theorem dX11_isBundle_2 : decode cX11_isBundle 2 = .ok (.aload_n 0, 1) := by decide +kernel
theorem dX11_isBundle_3 : decode cX11_isBundle 3 = .ok (.getfield 16, 3) := by decide +kernel
theorem dX11_isBundle_6 : decode cX11_isBundle 6 = .ok (.iconst 2, 1) := by decide +kernel
theorem dX11_isBundle_7 : decode cX11_isBundle 7 = .ok (.iaload, 1) := by decide +kernel
theorem dX11_isBundle_8 : decode cX11_isBundle 8 = .ok (.iconst 1, 1) := by decide +kernel
theorem dX11_isBundle_9 : decode cX11_isBundle 9 = .ok (.isub, 1) := by decide +kernel
theorem dX11_isBundle_10 : decode cX11_isBundle 10 = .ok (.invokestatic 69, 3) := by decide +kernel
theorem dX11_isBundle_13 : decode cX11_isBundle 13 = .ok (.ireturn, 1) := by decide +kernel
theorem dX11_isMissed_0 : decode cX11_isMissed 0 = .ok (.aload_n 0, 1) := by decide +kernel
theorem dX11_isMissed_1 : decode cX11_isMissed 1 = .ok (.getfield 16, 3) := by decide +kernel
theorem dX11_isMissed_4 : decode cX11_isMissed 4 = .ok (.iconst 1, 1) := by decide +kernel
theorem dX11_isMissed_5 : decode cX11_isMissed 5 = .ok (.iaload, 1) := by decide +kernel
theorem dX11_isMissed_6 : decode cX11_isMissed 6 = .ok (.iload_n 1, 1) := by decide +kernel
theorem dX11_isMissed_7 : decode cX11_isMissed 7 = .ok (.ishr, 1) := by decide +kernel
theorem dX11_isMissed_8 : decode cX11_isMissed 8 = .ok (.iconst 1, 1) := by decide +kernel
theorem dX11_isMissed_9 : decode cX11_isMissed 9 = .ok (.iand, 1) := by decide +kernel
theorem dX11_isMissed_10 : decode cX11_isMissed 10 = .ok (.iconst 1, 1) := by decide +kernel
theorem dX11_isMissed_11 : decode cX11_isMissed 11 = .ok (.if_icmp .ne 7, 3) := by decide +kernel
theorem dX11_isMissed_14 : decode cX11_isMissed 14 = .ok (.iconst 1, 1) := by decide +kernel
theorem dX11_isMissed_15 : decode cX11_isMissed 15 = .ok (.goto 4, 3) := by decide +kernel
theorem dX11_isMissed_18 : decode cX11_isMissed 18 = .ok (.iconst 0, 1) := by decide +kernel
theorem dX11_isMissed_19 : decode cX11_isMissed 19 = .ok (.ireturn, 1) := by decide +kernel
theorem dX11_type_0 : decode cX11_type 0 = .ok (.aload_n 0, 1) := by decide +kernel
theorem dX11_type_1 : decode cX11_type 1 = .ok (.iconst 0, 1) := by decide +kernel
theorem dX11_type_2 : decode cX11_type 2 = .ok (.putfield 62, 3) := by decide +kernel
theorem dX11_type_5 : decode cX11_type 5 = .ok (.iload_n 1, 1) := by decide +kernel
theorem dX11_type_6 : decode cX11_type 6 = .ok (.iconst 0, 1) := by decide +kernel
theorem dX11_type_7 : decode cX11_type 7 = .ok (.sipush 255, 3) := by decide +kernel
theorem dX11_type_10 : decode cX11_type 10 = .ok (.invokestatic 69, 3) := by decide +kernel
theorem dX11_type_13 : decode cX11_type 13 = .ok (.ifCond .ne 5, 3) := by decide +kernel
theorem dX11_type_16 : decode cX11_type 16 = .ok (.iconst (-1), 1) := by decide +kernel
theorem dX11_type_17 : decode cX11_type 17 = .ok (.ireturn, 1) := by decide +kernel
theorem dX11_type_18 : decode cX11_type 18 = .ok (.aload_n 0, 1) := by decide +kernel
theorem dX11_type_19 : decode cX11_type 19 = .ok (.getfield 76, 3) := by decide +kernel
theorem dX11_type_22 : decode cX11_type 22 = .ok (.sipush 150, 3) := by decide +kernel
theorem dX11_type_25 : decode cX11_type 25 = .ok (.if_icmp .ne 6, 3) := by decide +kernel
theorem dX11_type_28 : decode cX11_type 28 = .ok (.bipush (-3), 2) := by decide +kernel
theorem dX11_type_30 : decode cX11_type 30 = .ok (.ireturn, 1) := by decide +kernel
theorem dX11_type_31 : decode cX11_type 31 = .ok (.aload_n 0, 1) := by decide +kernel
theorem dX11_type_32 : decode cX11_type 32 = .ok (.getfield 41, 3) := by decide +kernel
theorem dX11_type_35 : decode cX11_type 35 = .ok (.aload_n 0, 1) := by decide +kernel
theorem dX11_type_36 : decode cX11_type 36 = .ok (.getfield 76, 3) := by decide +kernel
theorem dX11_type_39 : decode cX11_type 39 = .ok (.iload_n 1, 1) := by decide +kernel
theorem dX11_type_40 : decode cX11_type 40 = .ok (.iastore, 1) := by decide +kernel
theorem dX11_type_41 : decode cX11_type 41 = .ok (.aload_n 0, 1) := by decide +kernel
theorem dX11_type_42 : decode cX11_type 42 = .ok (.dup, 1) := by decide +kernel
theorem dX11_type_43 : decode cX11_type 43 = .ok (.getfield 76, 3) := by decide +kernel
theorem dX11_type_46 : decode cX11_type 46 = .ok (.iconst 1, 1) := by decide +kernel
theorem dX11_type_47 : decode cX11_type 47 = .ok (.iadd, 1) := by decide +kernel
theorem dX11_type_48 : decode cX11_type 48 = .ok (.putfield 76, 3) := by decide +kernel
theorem dX11_type_51 : decode cX11_type 51 = .ok (.aload_n 0, 1) := by decide +kernel
theorem dX11_type_52 : decode cX11_type 52 = .ok (.getfield 76, 3) := by decide +kernel
theorem dX11_type_55 : decode cX11_type 55 = .ok (.ireturn, 1) := by decide +kernel
theorem dX11_clear_0 : decode cX11_clear 0 = .ok (.aload_n 0, 1) := by decide +kernel
theorem dX11_clear_1 : decode cX11_clear 1 = .ok (.iconst 0, 1) := by decide +kernel
theorem dX11_clear_2 : decode cX11_clear 2 = .ok (.putfield 62, 3) := by decide +kernel
theorem dX11_clear_5 : decode cX11_clear 5 = .ok (.aload_n 0, 1) := by decide +kernel
theorem dX11_clear_6 : decode cX11_clear 6 = .ok (.getfield 76, 3) := by decide +kernel
theorem dX11_clear_9 : decode cX11_clear 9 = .ok (.istore_n 1, 1) := by decide +kernel
theorem dX11_clear_10 : decode cX11_clear 10 = .ok (.aload_n 0, 1) := by decide +kernel
theorem dX11_clear_11 : decode cX11_clear 11 = .ok (.iconst 0, 1) := by decide +kernel
theorem dX11_clear_12 : decode cX11_clear 12 = .ok (.putfield 76, 3) := by decide +kernel
theorem dX11_clear_15 : decode cX11_clear 15 = .ok (.iload_n 1, 1) := by decide +kernel
theorem dX11_clear_16 : decode cX11_clear 16 = .ok (.ireturn, 1) := by decide +kernel
theorem dX11_isFigure_0 : decode cX11_isFigure 0 = .ok (.iload_n 1, 1) := by decide +kernel
theorem dX11_isFigure_1 : decode cX11_isFigure 1 = .ok (.aload_n 0, 1) := by decide +kernel
theorem dX11_isFigure_2 : decode cX11_isFigure 2 = .ok (.getfield 76, 3) := by decide +kernel
theorem dX11_isFigure_5 : decode cX11_isFigure 5 = .ok (.if_icmp .ge 23, 3) := by decide +kernel
theorem dX11_isFigure_8 : decode cX11_isFigure 8 = .ok (.aload_n 0, 1) := by decide +kernel
theorem dX11_isFigure_9 : decode cX11_isFigure 9 = .ok (.getfield 41, 3) := by decide +kernel
theorem dX11_isFigure_12 : decode cX11_isFigure 12 = .ok (.iload_n 1, 1) := by decide +kernel
theorem dX11_isFigure_13 : decode cX11_isFigure 13 = .ok (.iaload, 1) := by decide +kernel
theorem dX11_isFigure_14 : decode cX11_isFigure 14 = .ok (.bipush 48, 2) := by decide +kernel
theorem dX11_isFigure_16 : decode cX11_isFigure 16 = .ok (.bipush 57, 2) := by decide +kernel
theorem dX11_isFigure_18 : decode cX11_isFigure 18 = .ok (.invokestatic 69, 3) := by decide +kernel
theorem dX11_isFigure_21 : decode cX11_isFigure 21 = .ok (.ifCond .eq 7, 3) := by decide +kernel
theorem dX11_isFigure_24 : decode cX11_isFigure 24 = .ok (.iconst 1, 1) := by decide +kernel
theorem dX11_isFigure_25 : decode cX11_isFigure 25 = .ok (.goto 4, 3) := by decide +kernel
theorem dX11_isFigure_28 : decode cX11_isFigure 28 = .ok (.iconst 0, 1) := by decide +kernel
theorem dX11_isFigure_29 : decode cX11_isFigure 29 = .ok (.ireturn, 1) := by decide +kernel
theorem dX11_takes_0 : decode cX11_takes 0 = .ok (.aload_n 0, 1) := by decide +kernel
theorem dX11_takes_1 : decode cX11_takes 1 = .ok (.getfield 79, 3) := by decide +kernel
theorem dX11_takes_4 : decode cX11_takes 4 = .ok (.aload_n 0, 1) := by decide +kernel
theorem dX11_takes_5 : decode cX11_takes 5 = .ok (.getfield 76, 3) := by decide +kernel
theorem dX11_takes_8 : decode cX11_takes 8 = .ok (.if_icmp .ge 30, 3) := by decide +kernel
theorem dX11_takes_11 : decode cX11_takes 11 = .ok (.aload_n 0, 1) := by decide +kernel
theorem dX11_takes_12 : decode cX11_takes 12 = .ok (.getfield 41, 3) := by decide +kernel
theorem dX11_takes_15 : decode cX11_takes 15 = .ok (.aload_n 0, 1) := by decide +kernel
theorem dX11_takes_16 : decode cX11_takes 16 = .ok (.getfield 79, 3) := by decide +kernel
theorem dX11_takes_19 : decode cX11_takes 19 = .ok (.iaload, 1) := by decide +kernel
theorem dX11_takes_20 : decode cX11_takes 20 = .ok (.bipush 32, 2) := by decide +kernel
theorem dX11_takes_22 : decode cX11_takes 22 = .ok (.if_icmp .ne 16, 3) := by decide +kernel
theorem dX11_takes_25 : decode cX11_takes 25 = .ok (.aload_n 0, 1) := by decide +kernel
theorem dX11_takes_26 : decode cX11_takes 26 = .ok (.dup, 1) := by decide +kernel
theorem dX11_takes_27 : decode cX11_takes 27 = .ok (.getfield 79, 3) := by decide +kernel
theorem dX11_takes_30 : decode cX11_takes 30 = .ok (.iconst 1, 1) := by decide +kernel
theorem dX11_takes_31 : decode cX11_takes 31 = .ok (.iadd, 1) := by decide +kernel
theorem dX11_takes_32 : decode cX11_takes 32 = .ok (.putfield 79, 3) := by decide +kernel
theorem dX11_takes_35 : decode cX11_takes 35 = .ok (.goto (-35), 3) := by decide +kernel
theorem dX11_takes_38 : decode cX11_takes 38 = .ok (.aload_n 0, 1) := by decide +kernel
theorem dX11_takes_39 : decode cX11_takes 39 = .ok (.aload_n 0, 1) := by decide +kernel
theorem dX11_takes_40 : decode cX11_takes 40 = .ok (.getfield 79, 3) := by decide +kernel
theorem dX11_takes_43 : decode cX11_takes 43 = .ok (.putfield 82, 3) := by decide +kernel
theorem dX11_takes_46 : decode cX11_takes 46 = .ok (.aload_n 0, 1) := by decide +kernel
theorem dX11_takes_47 : decode cX11_takes 47 = .ok (.aload_n 0, 1) := by decide +kernel
theorem dX11_takes_48 : decode cX11_takes 48 = .ok (.getfield 79, 3) := by decide +kernel
theorem dX11_takes_51 : decode cX11_takes 51 = .ok (.aload_n 0, 1) := by decide +kernel
theorem dX11_takes_52 : decode cX11_takes 52 = .ok (.getfield 76, 3) := by decide +kernel
theorem dX11_takes_55 : decode cX11_takes 55 = .ok (.if_icmp .ge 15, 3) := by decide +kernel
theorem dX11_takes_58 : decode cX11_takes 58 = .ok (.aload_n 0, 1) := by decide +kernel
theorem dX11_takes_59 : decode cX11_takes 59 = .ok (.getfield 41, 3) := by decide +kernel
theorem dX11_takes_62 : decode cX11_takes 62 = .ok (.aload_n 0, 1) := by decide +kernel
theorem dX11_takes_63 : decode cX11_takes 63 = .ok (.getfield 79, 3) := by decide +kernel
theorem dX11_takes_66 : decode cX11_takes 66 = .ok (.iaload, 1) := by decide +kernel
theorem dX11_takes_67 : decode cX11_takes 67 = .ok (.goto 4, 3) := by decide +kernel
theorem dX11_takes_70 : decode cX11_takes 70 = .ok (.iconst (-1), 1) := by decide +kernel
theorem dX11_takes_71 : decode cX11_takes 71 = .ok (.putfield 85, 3) := by decide +kernel
theorem dX11_takes_74 : decode cX11_takes 74 = .ok (.aload_n 0, 1) := by decide +kernel
theorem dX11_takes_75 : decode cX11_takes 75 = .ok (.aload_n 0, 1) := by decide +kernel
theorem dX11_takes_76 : decode cX11_takes 76 = .ok (.getfield 79, 3) := by decide +kernel
theorem dX11_takes_79 : decode cX11_takes 79 = .ok (.invokevirtual 88, 3) := by decide +kernel
theorem dX11_takes_82 : decode cX11_takes 82 = .ok (.ifCond .ne 29, 3) := by decide +kernel
theorem dX11_takes_85 : decode cX11_takes 85 = .ok (.aload_n 0, 1) := by decide +kernel
theorem dX11_takes_86 : decode cX11_takes 86 = .ok (.dup, 1) := by decide +kernel
theorem dX11_takes_87 : decode cX11_takes 87 = .ok (.getfield 79, 3) := by decide +kernel
theorem dX11_takes_90 : decode cX11_takes 90 = .ok (.aload_n 0, 1) := by decide +kernel
theorem dX11_takes_91 : decode cX11_takes 91 = .ok (.getfield 79, 3) := by decide +kernel
theorem dX11_takes_94 : decode cX11_takes 94 = .ok (.aload_n 0, 1) := by decide +kernel
theorem dX11_takes_95 : decode cX11_takes 95 = .ok (.getfield 76, 3) := by decide +kernel
theorem dX11_takes_98 : decode cX11_takes 98 = .ok (.if_icmp .ge 7, 3) := by decide +kernel
theorem dX11_takes_101 : decode cX11_takes 101 = .ok (.iconst 1, 1) := by decide +kernel
theorem dX11_takes_102 : decode cX11_takes 102 = .ok (.goto 4, 3) := by decide +kernel
theorem dX11_takes_105 : decode cX11_takes 105 = .ok (.iconst 0, 1) := by decide +kernel
theorem dX11_takes_106 : decode cX11_takes 106 = .ok (.iadd, 1) := by decide +kernel
theorem dX11_takes_107 : decode cX11_takes 107 = .ok (.putfield 79, 3) := by decide +kernel
theorem dX11_takes_110 : decode cX11_takes 110 = .ok (.return_, 1) := by decide +kernel
theorem dX11_takes_111 : decode cX11_takes 111 = .ok (.iconst 0, 1) := by decide +kernel
theorem dX11_takes_112 : decode cX11_takes 112 = .ok (.istore_n 1, 1) := by decide +kernel
theorem dX11_takes_113 : decode cX11_takes 113 = .ok (.aload_n 0, 1) := by decide +kernel
theorem dX11_takes_114 : decode cX11_takes 114 = .ok (.aload_n 0, 1) := by decide +kernel
theorem dX11_takes_115 : decode cX11_takes 115 = .ok (.getfield 79, 3) := by decide +kernel
theorem dX11_takes_118 : decode cX11_takes 118 = .ok (.invokevirtual 88, 3) := by decide +kernel
theorem dX11_takes_121 : decode cX11_takes 121 = .ok (.ifCond .eq 44, 3) := by decide +kernel
theorem dX11_takes_124 : decode cX11_takes 124 = .ok (.iload_n 1, 1) := by decide +kernel
theorem dX11_takes_125 : decode cX11_takes 125 = .ok (.bipush 99, 2) := by decide +kernel
theorem dX11_takes_127 : decode cX11_takes 127 = .ok (.if_icmp .le 7, 3) := by decide +kernel
theorem dX11_takes_130 : decode cX11_takes 130 = .ok (.iload_n 1, 1) := by decide +kernel
theorem dX11_takes_131 : decode cX11_takes 131 = .ok (.goto 20, 3) := by decide +kernel
theorem dX11_takes_134 : decode cX11_takes 134 = .ok (.bipush 10, 2) := by decide +kernel
theorem dX11_takes_136 : decode cX11_takes 136 = .ok (.iload_n 1, 1) := by decide +kernel
theorem dX11_takes_137 : decode cX11_takes 137 = .ok (.imul, 1) := by decide +kernel
theorem dX11_takes_138 : decode cX11_takes 138 = .ok (.aload_n 0, 1) := by decide +kernel
theorem dX11_takes_139 : decode cX11_takes 139 = .ok (.getfield 41, 3) := by decide +kernel
theorem dX11_takes_142 : decode cX11_takes 142 = .ok (.aload_n 0, 1) := by decide +kernel
theorem dX11_takes_143 : decode cX11_takes 143 = .ok (.getfield 79, 3) := by decide +kernel
theorem dX11_takes_146 : decode cX11_takes 146 = .ok (.iaload, 1) := by decide +kernel
theorem dX11_takes_147 : decode cX11_takes 147 = .ok (.iadd, 1) := by decide +kernel
theorem dX11_takes_148 : decode cX11_takes 148 = .ok (.bipush 48, 2) := by decide +kernel
theorem dX11_takes_150 : decode cX11_takes 150 = .ok (.isub, 1) := by decide +kernel
theorem dX11_takes_151 : decode cX11_takes 151 = .ok (.istore_n 1, 1) := by decide +kernel
theorem dX11_takes_152 : decode cX11_takes 152 = .ok (.aload_n 0, 1) := by decide +kernel
theorem dX11_takes_153 : decode cX11_takes 153 = .ok (.dup, 1) := by decide +kernel
theorem dX11_takes_154 : decode cX11_takes 154 = .ok (.getfield 79, 3) := by decide +kernel
theorem dX11_takes_157 : decode cX11_takes 157 = .ok (.iconst 1, 1) := by decide +kernel
theorem dX11_takes_158 : decode cX11_takes 158 = .ok (.iadd, 1) := by decide +kernel
theorem dX11_takes_159 : decode cX11_takes 159 = .ok (.putfield 79, 3) := by decide +kernel
theorem dX11_takes_162 : decode cX11_takes 162 = .ok (.goto (-49), 3) := by decide +kernel
theorem dX11_takes_165 : decode cX11_takes 165 = .ok (.aload_n 0, 1) := by decide +kernel
theorem dX11_takes_166 : decode cX11_takes 166 = .ok (.iload_n 1, 1) := by decide +kernel
theorem dX11_takes_167 : decode cX11_takes 167 = .ok (.bipush 99, 2) := by decide +kernel
theorem dX11_takes_169 : decode cX11_takes 169 = .ok (.if_icmp .gt 30, 3) := by decide +kernel
theorem dX11_takes_172 : decode cX11_takes 172 = .ok (.aload_n 0, 1) := by decide +kernel
theorem dX11_takes_173 : decode cX11_takes 173 = .ok (.getfield 41, 3) := by decide +kernel
theorem dX11_takes_176 : decode cX11_takes 176 = .ok (.aload_n 0, 1) := by decide +kernel
theorem dX11_takes_177 : decode cX11_takes 177 = .ok (.getfield 82, 3) := by decide +kernel
theorem dX11_takes_180 : decode cX11_takes 180 = .ok (.iaload, 1) := by decide +kernel
theorem dX11_takes_181 : decode cX11_takes 181 = .ok (.bipush 48, 2) := by decide +kernel
theorem dX11_takes_183 : decode cX11_takes 183 = .ok (.if_icmp .ne 22, 3) := by decide +kernel
theorem dX11_takes_186 : decode cX11_takes 186 = .ok (.aload_n 0, 1) := by decide +kernel
theorem dX11_takes_187 : decode cX11_takes 187 = .ok (.getfield 79, 3) := by decide +kernel
theorem dX11_takes_190 : decode cX11_takes 190 = .ok (.aload_n 0, 1) := by decide +kernel
theorem dX11_takes_191 : decode cX11_takes 191 = .ok (.getfield 82, 3) := by decide +kernel
theorem dX11_takes_194 : decode cX11_takes 194 = .ok (.iconst 1, 1) := by decide +kernel
theorem dX11_takes_195 : decode cX11_takes 195 = .ok (.iadd, 1) := by decide +kernel
theorem dX11_takes_196 : decode cX11_takes 196 = .ok (.if_icmp .le 9, 3) := by decide +kernel
theorem dX11_takes_199 : decode cX11_takes 199 = .ok (.sipush 2000, 3) := by decide +kernel
theorem dX11_takes_202 : decode cX11_takes 202 = .ok (.goto 8, 3) := by decide +kernel
theorem dX11_takes_205 : decode cX11_takes 205 = .ok (.sipush 1000, 3) := by decide +kernel
theorem dX11_takes_208 : decode cX11_takes 208 = .ok (.iload_n 1, 1) := by decide +kernel
theorem dX11_takes_209 : decode cX11_takes 209 = .ok (.iadd, 1) := by decide +kernel
theorem dX11_takes_210 : decode cX11_takes 210 = .ok (.putfield 85, 3) := by decide +kernel
theorem dX11_takes_213 : decode cX11_takes 213 = .ok (.return_, 1) := by decide +kernel
theorem dX11_reads_0 : decode cX11_reads 0 = .ok (.aload_n 0, 1) := by decide +kernel
theorem dX11_reads_1 : decode cX11_reads 1 = .ok (.invokevirtual 92, 3) := by decide +kernel
theorem dX11_reads_4 : decode cX11_reads 4 = .ok (.aload_n 0, 1) := by decide +kernel
theorem dX11_reads_5 : decode cX11_reads 5 = .ok (.getfield 13, 3) := by decide +kernel
theorem dX11_reads_8 : decode cX11_reads 8 = .ok (.bipush 6, 2) := by decide +kernel
theorem dX11_reads_10 : decode cX11_reads 10 = .ok (.aload_n 0, 1) := by decide +kernel
theorem dX11_reads_11 : decode cX11_reads 11 = .ok (.getfield 95, 3) := by decide +kernel
theorem dX11_reads_14 : decode cX11_reads 14 = .ok (.imul, 1) := by decide +kernel
theorem dX11_reads_15 : decode cX11_reads 15 = .ok (.iload_n 1, 1) := by decide +kernel
theorem dX11_reads_16 : decode cX11_reads 16 = .ok (.iadd, 1) := by decide +kernel
theorem dX11_reads_17 : decode cX11_reads 17 = .ok (.aload_n 0, 1) := by decide +kernel
theorem dX11_reads_18 : decode cX11_reads 18 = .ok (.getfield 85, 3) := by decide +kernel
theorem dX11_reads_21 : decode cX11_reads 21 = .ok (.sipush 1000, 3) := by decide +kernel
theorem dX11_reads_24 : decode cX11_reads 24 = .ok (.isub, 1) := by decide +kernel
theorem dX11_reads_25 : decode cX11_reads 25 = .ok (.iastore, 1) := by decide +kernel
theorem dX11_reads_26 : decode cX11_reads 26 = .ok (.aload_n 0, 1) := by decide +kernel
theorem dX11_reads_27 : decode cX11_reads 27 = .ok (.getfield 85, 3) := by decide +kernel
theorem dX11_reads_30 : decode cX11_reads 30 = .ok (.sipush 1000, 3) := by decide +kernel
theorem dX11_reads_33 : decode cX11_reads 33 = .ok (.iload_n 2, 1) := by decide +kernel
theorem dX11_reads_34 : decode cX11_reads 34 = .ok (.iadd, 1) := by decide +kernel
theorem dX11_reads_35 : decode cX11_reads 35 = .ok (.sipush 1000, 3) := by decide +kernel
theorem dX11_reads_38 : decode cX11_reads 38 = .ok (.iload_n 3, 1) := by decide +kernel
theorem dX11_reads_39 : decode cX11_reads 39 = .ok (.iadd, 1) := by decide +kernel
theorem dX11_reads_40 : decode cX11_reads 40 = .ok (.invokestatic 69, 3) := by decide +kernel
theorem dX11_reads_43 : decode cX11_reads 43 = .ok (.ireturn, 1) := by decide +kernel
theorem dX11_readsContact_0 : decode cX11_readsContact 0 = .ok (.aload_n 0, 1) := by decide +kernel
theorem dX11_readsContact_1 : decode cX11_readsContact 1 = .ok (.getfield 95, 3) := by decide +kernel
theorem dX11_readsContact_4 : decode cX11_readsContact 4 = .ok (.bipush 8, 2) := by decide +kernel
theorem dX11_readsContact_6 : decode cX11_readsContact 6 = .ok (.if_icmp .ne 5, 3) := by decide +kernel
theorem dX11_readsContact_9 : decode cX11_readsContact 9 = .ok (.iconst 0, 1) := by decide +kernel
theorem dX11_readsContact_10 : decode cX11_readsContact 10 = .ok (.ireturn, 1) := by decide +kernel
theorem dX11_readsContact_11 : decode cX11_readsContact 11 = .ok (.bipush 6, 2) := by decide +kernel
theorem dX11_readsContact_13 : decode cX11_readsContact 13 = .ok (.aload_n 0, 1) := by decide +kernel
theorem dX11_readsContact_14 : decode cX11_readsContact 14 = .ok (.getfield 95, 3) := by decide +kernel
theorem dX11_readsContact_17 : decode cX11_readsContact 17 = .ok (.imul, 1) := by decide +kernel
theorem dX11_readsContact_18 : decode cX11_readsContact 18 = .ok (.istore_n 1, 1) := by decide +kernel
theorem dX11_readsContact_19 : decode cX11_readsContact 19 = .ok (.aload_n 0, 1) := by decide +kernel
theorem dX11_readsContact_20 : decode cX11_readsContact 20 = .ok (.iconst 0, 1) := by decide +kernel
theorem dX11_readsContact_21 : decode cX11_readsContact 21 = .ok (.iconst 0, 1) := by decide +kernel
theorem dX11_readsContact_22 : decode cX11_readsContact 22 = .ok (.aload_n 0, 1) := by decide +kernel
theorem dX11_readsContact_23 : decode cX11_readsContact 23 = .ok (.getfield 98, 3) := by decide +kernel
theorem dX11_readsContact_26 : decode cX11_readsContact 26 = .ok (.iconst 1, 1) := by decide +kernel
theorem dX11_readsContact_27 : decode cX11_readsContact 27 = .ok (.isub, 1) := by decide +kernel
theorem dX11_readsContact_28 : decode cX11_readsContact 28 = .ok (.invokevirtual 101, 3) := by decide +kernel
theorem dX11_readsContact_31 : decode cX11_readsContact 31 = .ok (.ifCond .eq 35, 3) := by decide +kernel
theorem dX11_readsContact_34 : decode cX11_readsContact 34 = .ok (.aload_n 0, 1) := by decide +kernel
theorem dX11_readsContact_35 : decode cX11_readsContact 35 = .ok (.iconst 1, 1) := by decide +kernel
theorem dX11_readsContact_36 : decode cX11_readsContact 36 = .ok (.iconst 0, 1) := by decide +kernel
theorem dX11_readsContact_37 : decode cX11_readsContact 37 = .ok (.aload_n 0, 1) := by decide +kernel
theorem dX11_readsContact_38 : decode cX11_readsContact 38 = .ok (.getfield 98, 3) := by decide +kernel
theorem dX11_readsContact_41 : decode cX11_readsContact 41 = .ok (.iconst 1, 1) := by decide +kernel
theorem dX11_readsContact_42 : decode cX11_readsContact 42 = .ok (.isub, 1) := by decide +kernel
theorem dX11_readsContact_43 : decode cX11_readsContact 43 = .ok (.invokevirtual 101, 3) := by decide +kernel
theorem dX11_readsContact_46 : decode cX11_readsContact 46 = .ok (.ifCond .eq 20, 3) := by decide +kernel
theorem dX11_readsContact_49 : decode cX11_readsContact 49 = .ok (.aload_n 0, 1) := by decide +kernel
theorem dX11_readsContact_50 : decode cX11_readsContact 50 = .ok (.getfield 13, 3) := by decide +kernel
theorem dX11_readsContact_53 : decode cX11_readsContact 53 = .ok (.iload_n 1, 1) := by decide +kernel
theorem dX11_readsContact_54 : decode cX11_readsContact 54 = .ok (.iaload, 1) := by decide +kernel
theorem dX11_readsContact_55 : decode cX11_readsContact 55 = .ok (.aload_n 0, 1) := by decide +kernel
theorem dX11_readsContact_56 : decode cX11_readsContact 56 = .ok (.getfield 13, 3) := by decide +kernel
theorem dX11_readsContact_59 : decode cX11_readsContact 59 = .ok (.iload_n 1, 1) := by decide +kernel
theorem dX11_readsContact_60 : decode cX11_readsContact 60 = .ok (.iconst 1, 1) := by decide +kernel
theorem dX11_readsContact_61 : decode cX11_readsContact 61 = .ok (.iadd, 1) := by decide +kernel
theorem dX11_readsContact_62 : decode cX11_readsContact 62 = .ok (.iaload, 1) := by decide +kernel
theorem dX11_readsContact_63 : decode cX11_readsContact 63 = .ok (.if_icmp .ne 5, 3) := by decide +kernel
theorem dX11_readsContact_66 : decode cX11_readsContact 66 = .ok (.iconst 0, 1) := by decide +kernel
theorem dX11_readsContact_67 : decode cX11_readsContact 67 = .ok (.ireturn, 1) := by decide +kernel
theorem dX11_readsContact_68 : decode cX11_readsContact 68 = .ok (.aload_n 0, 1) := by decide +kernel
theorem dX11_readsContact_69 : decode cX11_readsContact 69 = .ok (.iconst 2, 1) := by decide +kernel
theorem dX11_readsContact_70 : decode cX11_readsContact 70 = .ok (.iconst 0, 1) := by decide +kernel
theorem dX11_readsContact_71 : decode cX11_readsContact 71 = .ok (.bipush 98, 2) := by decide +kernel
theorem dX11_readsContact_73 : decode cX11_readsContact 73 = .ok (.invokevirtual 101, 3) := by decide +kernel
theorem dX11_readsContact_76 : decode cX11_readsContact 76 = .ok (.ifCond .eq 45, 3) := by decide +kernel
theorem dX11_readsContact_79 : decode cX11_readsContact 79 = .ok (.aload_n 0, 1) := by decide +kernel
theorem dX11_readsContact_80 : decode cX11_readsContact 80 = .ok (.iconst 3, 1) := by decide +kernel
theorem dX11_readsContact_81 : decode cX11_readsContact 81 = .ok (.aload_n 0, 1) := by decide +kernel
theorem dX11_readsContact_82 : decode cX11_readsContact 82 = .ok (.getfield 13, 3) := by decide +kernel
theorem dX11_readsContact_85 : decode cX11_readsContact 85 = .ok (.iload_n 1, 1) := by decide +kernel
theorem dX11_readsContact_86 : decode cX11_readsContact 86 = .ok (.iconst 2, 1) := by decide +kernel
theorem dX11_readsContact_87 : decode cX11_readsContact 87 = .ok (.iadd, 1) := by decide +kernel
theorem dX11_readsContact_88 : decode cX11_readsContact 88 = .ok (.iaload, 1) := by decide +kernel
theorem dX11_readsContact_89 : decode cX11_readsContact 89 = .ok (.iconst 1, 1) := by decide +kernel
theorem dX11_readsContact_90 : decode cX11_readsContact 90 = .ok (.iadd, 1) := by decide +kernel
theorem dX11_readsContact_91 : decode cX11_readsContact 91 = .ok (.bipush 99, 2) := by decide +kernel
theorem dX11_readsContact_93 : decode cX11_readsContact 93 = .ok (.invokevirtual 101, 3) := by decide +kernel
theorem dX11_readsContact_96 : decode cX11_readsContact 96 = .ok (.ifCond .eq 25, 3) := by decide +kernel
theorem dX11_readsContact_99 : decode cX11_readsContact 99 = .ok (.aload_n 0, 1) := by decide +kernel
theorem dX11_readsContact_100 : decode cX11_readsContact 100 = .ok (.iconst 4, 1) := by decide +kernel
theorem dX11_readsContact_101 : decode cX11_readsContact 101 = .ok (.iconst 1, 1) := by decide +kernel
theorem dX11_readsContact_102 : decode cX11_readsContact 102 = .ok (.bipush 9, 2) := by decide +kernel
theorem dX11_readsContact_104 : decode cX11_readsContact 104 = .ok (.invokevirtual 101, 3) := by decide +kernel
theorem dX11_readsContact_107 : decode cX11_readsContact 107 = .ok (.ifCond .eq 14, 3) := by decide +kernel
theorem dX11_readsContact_110 : decode cX11_readsContact 110 = .ok (.aload_n 0, 1) := by decide +kernel
theorem dX11_readsContact_111 : decode cX11_readsContact 111 = .ok (.iconst 5, 1) := by decide +kernel
theorem dX11_readsContact_112 : decode cX11_readsContact 112 = .ok (.iconst 0, 1) := by decide +kernel
theorem dX11_readsContact_113 : decode cX11_readsContact 113 = .ok (.bipush 9, 2) := by decide +kernel
theorem dX11_readsContact_115 : decode cX11_readsContact 115 = .ok (.invokevirtual 101, 3) := by decide +kernel
theorem dX11_readsContact_118 : decode cX11_readsContact 118 = .ok (.ifCond .ne 5, 3) := by decide +kernel
theorem dX11_readsContact_121 : decode cX11_readsContact 121 = .ok (.iconst 0, 1) := by decide +kernel
theorem dX11_readsContact_122 : decode cX11_readsContact 122 = .ok (.ireturn, 1) := by decide +kernel
theorem dX11_readsContact_123 : decode cX11_readsContact 123 = .ok (.aload_n 0, 1) := by decide +kernel
theorem dX11_readsContact_124 : decode cX11_readsContact 124 = .ok (.dup, 1) := by decide +kernel
theorem dX11_readsContact_125 : decode cX11_readsContact 125 = .ok (.getfield 95, 3) := by decide +kernel
theorem dX11_readsContact_128 : decode cX11_readsContact 128 = .ok (.iconst 1, 1) := by decide +kernel
theorem dX11_readsContact_129 : decode cX11_readsContact 129 = .ok (.iadd, 1) := by decide +kernel
theorem dX11_readsContact_130 : decode cX11_readsContact 130 = .ok (.putfield 95, 3) := by decide +kernel
theorem dX11_readsContact_133 : decode cX11_readsContact 133 = .ok (.iconst 1, 1) := by decide +kernel
theorem dX11_readsContact_134 : decode cX11_readsContact 134 = .ok (.ireturn, 1) := by decide +kernel
theorem dX11_readsNodes_0 : decode cX11_readsNodes 0 = .ok (.iload_n 1, 1) := by decide +kernel
theorem dX11_readsNodes_1 : decode cX11_readsNodes 1 = .ok (.ifCond .le 5, 3) := by decide +kernel
theorem dX11_readsNodes_4 : decode cX11_readsNodes 4 = .ok (.iconst 0, 1) := by decide +kernel
theorem dX11_readsNodes_5 : decode cX11_readsNodes 5 = .ok (.ireturn, 1) := by decide +kernel
theorem dX11_readsNodes_6 : decode cX11_readsNodes 6 = .ok (.aload_n 0, 1) := by decide +kernel
theorem dX11_readsNodes_7 : decode cX11_readsNodes 7 = .ok (.invokevirtual 92, 3) := by decide +kernel
theorem dX11_readsNodes_10 : decode cX11_readsNodes 10 = .ok (.aload_n 0, 1) := by decide +kernel
theorem dX11_readsNodes_11 : decode cX11_readsNodes 11 = .ok (.aload_n 0, 1) := by decide +kernel
theorem dX11_readsNodes_12 : decode cX11_readsNodes 12 = .ok (.getfield 85, 3) := by decide +kernel
theorem dX11_readsNodes_15 : decode cX11_readsNodes 15 = .ok (.sipush 1002, 3) := by decide +kernel
theorem dX11_readsNodes_18 : decode cX11_readsNodes 18 = .ok (.sipush 1006, 3) := by decide +kernel
theorem dX11_readsNodes_21 : decode cX11_readsNodes 21 = .ok (.invokestatic 69, 3) := by decide +kernel
theorem dX11_readsNodes_24 : decode cX11_readsNodes 24 = .ok (.ifCond .eq 14, 3) := by decide +kernel
theorem dX11_readsNodes_27 : decode cX11_readsNodes 27 = .ok (.aload_n 0, 1) := by decide +kernel
theorem dX11_readsNodes_28 : decode cX11_readsNodes 28 = .ok (.getfield 85, 3) := by decide +kernel
theorem dX11_readsNodes_31 : decode cX11_readsNodes 31 = .ok (.sipush 1000, 3) := by decide +kernel
theorem dX11_readsNodes_34 : decode cX11_readsNodes 34 = .ok (.isub, 1) := by decide +kernel
theorem dX11_readsNodes_35 : decode cX11_readsNodes 35 = .ok (.goto 7, 3) := by decide +kernel
theorem dX11_readsNodes_38 : decode cX11_readsNodes 38 = .ok (.aload_n 0, 1) := by decide +kernel
theorem dX11_readsNodes_39 : decode cX11_readsNodes 39 = .ok (.getfield 98, 3) := by decide +kernel
theorem dX11_readsNodes_42 : decode cX11_readsNodes 42 = .ok (.putfield 98, 3) := by decide +kernel
theorem dX11_readsNodes_45 : decode cX11_readsNodes 45 = .ok (.aload_n 0, 1) := by decide +kernel
theorem dX11_readsNodes_46 : decode cX11_readsNodes 46 = .ok (.getfield 85, 3) := by decide +kernel
theorem dX11_readsNodes_49 : decode cX11_readsNodes 49 = .ok (.sipush 1002, 3) := by decide +kernel
theorem dX11_readsNodes_52 : decode cX11_readsNodes 52 = .ok (.sipush 1006, 3) := by decide +kernel
theorem dX11_readsNodes_55 : decode cX11_readsNodes 55 = .ok (.invokestatic 69, 3) := by decide +kernel
theorem dX11_readsNodes_58 : decode cX11_readsNodes 58 = .ok (.ireturn, 1) := by decide +kernel
theorem dX11_begins_0 : decode cX11_begins 0 = .ok (.aload_n 0, 1) := by decide +kernel
theorem dX11_begins_1 : decode cX11_begins 1 = .ok (.iconst 2, 1) := by decide +kernel
theorem dX11_begins_2 : decode cX11_begins 2 = .ok (.putfield 98, 3) := by decide +kernel
theorem dX11_begins_5 : decode cX11_begins 5 = .ok (.aload_n 0, 1) := by decide +kernel
theorem dX11_begins_6 : decode cX11_begins 6 = .ok (.iconst 0, 1) := by decide +kernel
theorem dX11_begins_7 : decode cX11_begins 7 = .ok (.putfield 95, 3) := by decide +kernel
theorem dX11_begins_10 : decode cX11_begins 10 = .ok (.return_, 1) := by decide +kernel
theorem dX11_becomes_0 : decode cX11_becomes 0 = .ok (.aload_n 0, 1) := by decide +kernel
theorem dX11_becomes_1 : decode cX11_becomes 1 = .ok (.aload_n 0, 1) := by decide +kernel
theorem dX11_becomes_2 : decode cX11_becomes 2 = .ok (.getfield 98, 3) := by decide +kernel
theorem dX11_becomes_5 : decode cX11_becomes 5 = .ok (.putfield 66, 3) := by decide +kernel
theorem dX11_becomes_8 : decode cX11_becomes 8 = .ok (.aload_n 0, 1) := by decide +kernel
theorem dX11_becomes_9 : decode cX11_becomes 9 = .ok (.aload_n 0, 1) := by decide +kernel
theorem dX11_becomes_10 : decode cX11_becomes 10 = .ok (.getfield 95, 3) := by decide +kernel
theorem dX11_becomes_13 : decode cX11_becomes 13 = .ok (.putfield 73, 3) := by decide +kernel
theorem dX11_becomes_16 : decode cX11_becomes 16 = .ok (.iconst 0, 1) := by decide +kernel
theorem dX11_becomes_17 : decode cX11_becomes 17 = .ok (.istore_n 1, 1) := by decide +kernel
theorem dX11_becomes_18 : decode cX11_becomes 18 = .ok (.iload_n 1, 1) := by decide +kernel
theorem dX11_becomes_19 : decode cX11_becomes 19 = .ok (.bipush 48, 2) := by decide +kernel
theorem dX11_becomes_21 : decode cX11_becomes 21 = .ok (.if_icmp .ge 21, 3) := by decide +kernel
theorem dX11_becomes_24 : decode cX11_becomes 24 = .ok (.aload_n 0, 1) := by decide +kernel
theorem dX11_becomes_25 : decode cX11_becomes 25 = .ok (.getfield 7, 3) := by decide +kernel
theorem dX11_becomes_28 : decode cX11_becomes 28 = .ok (.iload_n 1, 1) := by decide +kernel
theorem dX11_becomes_29 : decode cX11_becomes 29 = .ok (.aload_n 0, 1) := by decide +kernel
theorem dX11_becomes_30 : decode cX11_becomes 30 = .ok (.getfield 13, 3) := by decide +kernel
theorem dX11_becomes_33 : decode cX11_becomes 33 = .ok (.iload_n 1, 1) := by decide +kernel
theorem dX11_becomes_34 : decode cX11_becomes 34 = .ok (.iaload, 1) := by decide +kernel
theorem dX11_becomes_35 : decode cX11_becomes 35 = .ok (.iastore, 1) := by decide +kernel
theorem dX11_becomes_36 : decode cX11_becomes 36 = .ok (.iinc 1 1, 3) := by decide +kernel
theorem dX11_becomes_39 : decode cX11_becomes 39 = .ok (.goto (-21), 3) := by decide +kernel
theorem dX11_becomes_42 : decode cX11_becomes 42 = .ok (.aload_n 0, 1) := by decide +kernel
theorem dX11_becomes_43 : decode cX11_becomes 43 = .ok (.getfield 16, 3) := by decide +kernel
theorem dX11_becomes_46 : decode cX11_becomes 46 = .ok (.iconst 0, 1) := by decide +kernel
theorem dX11_becomes_47 : decode cX11_becomes 47 = .ok (.iconst 0, 1) := by decide +kernel
theorem dX11_becomes_48 : decode cX11_becomes 48 = .ok (.iastore, 1) := by decide +kernel
theorem dX11_becomes_49 : decode cX11_becomes 49 = .ok (.aload_n 0, 1) := by decide +kernel
theorem dX11_becomes_50 : decode cX11_becomes 50 = .ok (.getfield 16, 3) := by decide +kernel
theorem dX11_becomes_53 : decode cX11_becomes 53 = .ok (.iconst 1, 1) := by decide +kernel
theorem dX11_becomes_54 : decode cX11_becomes 54 = .ok (.iconst 0, 1) := by decide +kernel
theorem dX11_becomes_55 : decode cX11_becomes 55 = .ok (.iastore, 1) := by decide +kernel
theorem dX11_becomes_56 : decode cX11_becomes 56 = .ok (.aload_n 0, 1) := by decide +kernel
theorem dX11_becomes_57 : decode cX11_becomes 57 = .ok (.getfield 16, 3) := by decide +kernel
theorem dX11_becomes_60 : decode cX11_becomes 60 = .ok (.iconst 2, 1) := by decide +kernel
theorem dX11_becomes_61 : decode cX11_becomes 61 = .ok (.iconst 0, 1) := by decide +kernel
theorem dX11_becomes_62 : decode cX11_becomes 62 = .ok (.iastore, 1) := by decide +kernel
theorem dX11_becomes_63 : decode cX11_becomes 63 = .ok (.aload_n 0, 1) := by decide +kernel
theorem dX11_becomes_64 : decode cX11_becomes 64 = .ok (.iconst 0, 1) := by decide +kernel
theorem dX11_becomes_65 : decode cX11_becomes 65 = .ok (.putfield 104, 3) := by decide +kernel
theorem dX11_becomes_68 : decode cX11_becomes 68 = .ok (.aload_n 0, 1) := by decide +kernel
theorem dX11_becomes_69 : decode cX11_becomes 69 = .ok (.iconst 0, 1) := by decide +kernel
theorem dX11_becomes_70 : decode cX11_becomes 70 = .ok (.putfield 107, 3) := by decide +kernel
theorem dX11_becomes_73 : decode cX11_becomes 73 = .ok (.aload_n 0, 1) := by decide +kernel
theorem dX11_becomes_74 : decode cX11_becomes 74 = .ok (.getfield 25, 3) := by decide +kernel
theorem dX11_becomes_77 : decode cX11_becomes 77 = .ok (.iconst 0, 1) := by decide +kernel
theorem dX11_becomes_78 : decode cX11_becomes 78 = .ok (.iconst 0, 1) := by decide +kernel
theorem dX11_becomes_79 : decode cX11_becomes 79 = .ok (.bastore, 1) := by decide +kernel
theorem dX11_becomes_80 : decode cX11_becomes 80 = .ok (.aload_n 0, 1) := by decide +kernel
theorem dX11_becomes_81 : decode cX11_becomes 81 = .ok (.getfield 25, 3) := by decide +kernel
theorem dX11_becomes_84 : decode cX11_becomes 84 = .ok (.iconst 1, 1) := by decide +kernel
theorem dX11_becomes_85 : decode cX11_becomes 85 = .ok (.iconst 0, 1) := by decide +kernel
theorem dX11_becomes_86 : decode cX11_becomes 86 = .ok (.bastore, 1) := by decide +kernel
theorem dX11_becomes_87 : decode cX11_becomes 87 = .ok (.return_, 1) := by decide +kernel
theorem dX11_plan_0 : decode cX11_plan 0 = .ok (.aload_n 0, 1) := by decide +kernel
theorem dX11_plan_1 : decode cX11_plan 1 = .ok (.iconst 0, 1) := by decide +kernel
theorem dX11_plan_2 : decode cX11_plan 2 = .ok (.putfield 62, 3) := by decide +kernel
theorem dX11_plan_5 : decode cX11_plan 5 = .ok (.aload_n 0, 1) := by decide +kernel
theorem dX11_plan_6 : decode cX11_plan 6 = .ok (.invokevirtual 56, 3) := by decide +kernel
theorem dX11_plan_9 : decode cX11_plan 9 = .ok (.aload_n 0, 1) := by decide +kernel
theorem dX11_plan_10 : decode cX11_plan 10 = .ok (.iconst 0, 1) := by decide +kernel
theorem dX11_plan_11 : decode cX11_plan 11 = .ok (.putfield 79, 3) := by decide +kernel
theorem dX11_plan_14 : decode cX11_plan 14 = .ok (.iconst 0, 1) := by decide +kernel
theorem dX11_plan_15 : decode cX11_plan 15 = .ok (.istore_n 1, 1) := by decide +kernel
theorem dX11_plan_16 : decode cX11_plan 16 = .ok (.aload_n 0, 1) := by decide +kernel
theorem dX11_plan_17 : decode cX11_plan 17 = .ok (.invokevirtual 92, 3) := by decide +kernel
theorem dX11_plan_20 : decode cX11_plan 20 = .ok (.aload_n 0, 1) := by decide +kernel
theorem dX11_plan_21 : decode cX11_plan 21 = .ok (.getfield 85, 3) := by decide +kernel
theorem dX11_plan_24 : decode cX11_plan 24 = .ok (.iconst (-1), 1) := by decide +kernel
theorem dX11_plan_25 : decode cX11_plan 25 = .ok (.if_icmp .eq 81, 3) := by decide +kernel
theorem dX11_plan_28 : decode cX11_plan 28 = .ok (.aload_n 0, 1) := by decide +kernel
theorem dX11_plan_29 : decode cX11_plan 29 = .ok (.getfield 85, 3) := by decide +kernel
theorem dX11_plan_32 : decode cX11_plan 32 = .ok (.bipush 110, 2) := by decide +kernel
theorem dX11_plan_34 : decode cX11_plan 34 = .ok (.if_icmp .ne 11, 3) := by decide +kernel
theorem dX11_plan_37 : decode cX11_plan 37 = .ok (.aload_n 0, 1) := by decide +kernel
theorem dX11_plan_38 : decode cX11_plan 38 = .ok (.iload_n 1, 1) := by decide +kernel
theorem dX11_plan_39 : decode cX11_plan 39 = .ok (.invokevirtual 110, 3) := by decide +kernel
theorem dX11_plan_42 : decode cX11_plan 42 = .ok (.goto 24, 3) := by decide +kernel
theorem dX11_plan_45 : decode cX11_plan 45 = .ok (.aload_n 0, 1) := by decide +kernel
theorem dX11_plan_46 : decode cX11_plan 46 = .ok (.getfield 85, 3) := by decide +kernel
theorem dX11_plan_49 : decode cX11_plan 49 = .ok (.bipush 99, 2) := by decide +kernel
theorem dX11_plan_51 : decode cX11_plan 51 = .ok (.if_icmp .ne 14, 3) := by decide +kernel
theorem dX11_plan_54 : decode cX11_plan 54 = .ok (.aload_n 0, 1) := by decide +kernel
theorem dX11_plan_55 : decode cX11_plan 55 = .ok (.invokevirtual 113, 3) := by decide +kernel
theorem dX11_plan_58 : decode cX11_plan 58 = .ok (.ifCond .eq 7, 3) := by decide +kernel
theorem dX11_plan_61 : decode cX11_plan 61 = .ok (.iconst 1, 1) := by decide +kernel
theorem dX11_plan_62 : decode cX11_plan 62 = .ok (.goto 4, 3) := by decide +kernel
theorem dX11_plan_65 : decode cX11_plan 65 = .ok (.iconst 0, 1) := by decide +kernel
theorem dX11_plan_66 : decode cX11_plan 66 = .ok (.istore_n 2, 1) := by decide +kernel
theorem dX11_plan_67 : decode cX11_plan 67 = .ok (.iload_n 2, 1) := by decide +kernel
theorem dX11_plan_68 : decode cX11_plan 68 = .ok (.ifCond .eq 7, 3) := by decide +kernel
theorem dX11_plan_71 : decode cX11_plan 71 = .ok (.aload_n 0, 1) := by decide +kernel
theorem dX11_plan_72 : decode cX11_plan 72 = .ok (.invokevirtual 92, 3) := by decide +kernel
theorem dX11_plan_75 : decode cX11_plan 75 = .ok (.iload_n 2, 1) := by decide +kernel
theorem dX11_plan_76 : decode cX11_plan 76 = .ok (.ifCond .eq 12, 3) := by decide +kernel
theorem dX11_plan_79 : decode cX11_plan 79 = .ok (.aload_n 0, 1) := by decide +kernel
theorem dX11_plan_80 : decode cX11_plan 80 = .ok (.getfield 85, 3) := by decide +kernel
theorem dX11_plan_83 : decode cX11_plan 83 = .ok (.bipush 59, 2) := by decide +kernel
theorem dX11_plan_85 : decode cX11_plan 85 = .ok (.if_icmp .eq 11, 3) := by decide +kernel
theorem dX11_plan_88 : decode cX11_plan 88 = .ok (.bipush (-10), 2) := by decide +kernel
theorem dX11_plan_90 : decode cX11_plan 90 = .ok (.aload_n 0, 1) := by decide +kernel
theorem dX11_plan_91 : decode cX11_plan 91 = .ok (.getfield 82, 3) := by decide +kernel
theorem dX11_plan_94 : decode cX11_plan 94 = .ok (.isub, 1) := by decide +kernel
theorem dX11_plan_95 : decode cX11_plan 95 = .ok (.ireturn, 1) := by decide +kernel
theorem dX11_plan_96 : decode cX11_plan 96 = .ok (.iinc 1 1, 3) := by decide +kernel
theorem dX11_plan_99 : decode cX11_plan 99 = .ok (.aload_n 0, 1) := by decide +kernel
theorem dX11_plan_100 : decode cX11_plan 100 = .ok (.invokevirtual 92, 3) := by decide +kernel
theorem dX11_plan_103 : decode cX11_plan 103 = .ok (.goto (-83), 3) := by decide +kernel
theorem dX11_plan_106 : decode cX11_plan 106 = .ok (.aload_n 0, 1) := by decide +kernel
theorem dX11_plan_107 : decode cX11_plan 107 = .ok (.invokevirtual 59, 3) := by decide +kernel
theorem dX11_plan_110 : decode cX11_plan 110 = .ok (.aload_n 0, 1) := by decide +kernel
theorem dX11_plan_111 : decode cX11_plan 111 = .ok (.iconst 0, 1) := by decide +kernel
theorem dX11_plan_112 : decode cX11_plan 112 = .ok (.putfield 76, 3) := by decide +kernel
theorem dX11_plan_115 : decode cX11_plan 115 = .ok (.iload_n 1, 1) := by decide +kernel
theorem dX11_plan_116 : decode cX11_plan 116 = .ok (.ireturn, 1) := by decide +kernel
theorem dX11_contact_0 : decode cX11_contact 0 = .ok (.aload_n 0, 1) := by decide +kernel
theorem dX11_contact_1 : decode cX11_contact 1 = .ok (.iconst 0, 1) := by decide +kernel
theorem dX11_contact_2 : decode cX11_contact 2 = .ok (.putfield 62, 3) := by decide +kernel
theorem dX11_contact_5 : decode cX11_contact 5 = .ok (.aload_n 0, 1) := by decide +kernel
theorem dX11_contact_6 : decode cX11_contact 6 = .ok (.iload_n 1, 1) := by decide +kernel
theorem dX11_contact_7 : decode cX11_contact 7 = .ok (.invokevirtual 117, 3) := by decide +kernel
theorem dX11_contact_10 : decode cX11_contact 10 = .ok (.ifCond .eq 13, 3) := by decide +kernel
theorem dX11_contact_13 : decode cX11_contact 13 = .ok (.iload_n 2, 1) := by decide +kernel
theorem dX11_contact_14 : decode cX11_contact 14 = .ok (.iconst 0, 1) := by decide +kernel
theorem dX11_contact_15 : decode cX11_contact 15 = .ok (.bipush 6, 2) := by decide +kernel
theorem dX11_contact_17 : decode cX11_contact 17 = .ok (.invokestatic 69, 3) := by decide +kernel
theorem dX11_contact_20 : decode cX11_contact 20 = .ok (.ifCond .ne 5, 3) := by decide +kernel
theorem dX11_contact_23 : decode cX11_contact 23 = .ok (.iconst (-1), 1) := by decide +kernel
theorem dX11_contact_24 : decode cX11_contact 24 = .ok (.ireturn, 1) := by decide +kernel
theorem dX11_contact_25 : decode cX11_contact 25 = .ok (.iload_n 2, 1) := by decide +kernel
theorem dX11_contact_26 : decode cX11_contact 26 = .ok (.bipush 6, 2) := by decide +kernel
theorem dX11_contact_28 : decode cX11_contact 28 = .ok (.if_icmp .ge 17, 3) := by decide +kernel
theorem dX11_contact_31 : decode cX11_contact 31 = .ok (.aload_n 0, 1) := by decide +kernel
theorem dX11_contact_32 : decode cX11_contact 32 = .ok (.getfield 7, 3) := by decide +kernel
theorem dX11_contact_35 : decode cX11_contact 35 = .ok (.bipush 6, 2) := by decide +kernel
theorem dX11_contact_37 : decode cX11_contact 37 = .ok (.iload_n 1, 1) := by decide +kernel
theorem dX11_contact_38 : decode cX11_contact 38 = .ok (.imul, 1) := by decide +kernel
theorem dX11_contact_39 : decode cX11_contact 39 = .ok (.iload_n 2, 1) := by decide +kernel
theorem dX11_contact_40 : decode cX11_contact 40 = .ok (.iadd, 1) := by decide +kernel
theorem dX11_contact_41 : decode cX11_contact 41 = .ok (.iaload, 1) := by decide +kernel
theorem dX11_contact_42 : decode cX11_contact 42 = .ok (.goto 16, 3) := by decide +kernel
theorem dX11_contact_45 : decode cX11_contact 45 = .ok (.aload_n 0, 1) := by decide +kernel
theorem dX11_contact_46 : decode cX11_contact 46 = .ok (.iload_n 1, 1) := by decide +kernel
theorem dX11_contact_47 : decode cX11_contact 47 = .ok (.invokevirtual 120, 3) := by decide +kernel
theorem dX11_contact_50 : decode cX11_contact 50 = .ok (.ifCond .eq 7, 3) := by decide +kernel
theorem dX11_contact_53 : decode cX11_contact 53 = .ok (.iconst 1, 1) := by decide +kernel
theorem dX11_contact_54 : decode cX11_contact 54 = .ok (.goto 4, 3) := by decide +kernel
theorem dX11_contact_57 : decode cX11_contact 57 = .ok (.iconst 0, 1) := by decide +kernel
theorem dX11_contact_58 : decode cX11_contact 58 = .ok (.ireturn, 1) := by decide +kernel
theorem dX11_at_0 : decode cX11_at 0 = .ok (.iconst 3, 1) := by decide +kernel
theorem dX11_at_1 : decode cX11_at 1 = .ok (.bipush 20, 2) := by decide +kernel
theorem dX11_at_3 : decode cX11_at 3 = .ok (.iload_n 0, 1) := by decide +kernel
theorem dX11_at_4 : decode cX11_at 4 = .ok (.imul, 1) := by decide +kernel
theorem dX11_at_5 : decode cX11_at 5 = .ok (.iadd, 1) := by decide +kernel
theorem dX11_at_6 : decode cX11_at 6 = .ok (.ireturn, 1) := by decide +kernel
theorem dX11_its_0 : decode cX11_its 0 = .ok (.aload_n 0, 1) := by decide +kernel
theorem dX11_its_1 : decode cX11_its 1 = .ok (.getfield 16, 3) := by decide +kernel
theorem dX11_its_4 : decode cX11_its 4 = .ok (.iload_n 1, 1) := by decide +kernel
theorem dX11_its_5 : decode cX11_its 5 = .ok (.invokestatic 123, 3) := by decide +kernel
theorem dX11_its_8 : decode cX11_its 8 = .ok (.iload_n 2, 1) := by decide +kernel
theorem dX11_its_9 : decode cX11_its 9 = .ok (.iadd, 1) := by decide +kernel
theorem dX11_its_10 : decode cX11_its 10 = .ok (.iaload, 1) := by decide +kernel
theorem dX11_its_11 : decode cX11_its 11 = .ok (.ireturn, 1) := by decide +kernel
theorem dX11_ticks_0 : decode cX11_ticks 0 = .ok (.aload_n 0, 1) := by decide +kernel
theorem dX11_ticks_1 : decode cX11_ticks 1 = .ok (.getfield 7, 3) := by decide +kernel
theorem dX11_ticks_4 : decode cX11_ticks 4 = .ok (.bipush 6, 2) := by decide +kernel
theorem dX11_ticks_6 : decode cX11_ticks 6 = .ok (.iload_n 2, 1) := by decide +kernel
theorem dX11_ticks_7 : decode cX11_ticks 7 = .ok (.imul, 1) := by decide +kernel
theorem dX11_ticks_8 : decode cX11_ticks 8 = .ok (.iconst 4, 1) := by decide +kernel
theorem dX11_ticks_9 : decode cX11_ticks 9 = .ok (.iadd, 1) := by decide +kernel
theorem dX11_ticks_10 : decode cX11_ticks 10 = .ok (.iaload, 1) := by decide +kernel
theorem dX11_ticks_11 : decode cX11_ticks 11 = .ok (.istore_n 3, 1) := by decide +kernel
theorem dX11_ticks_12 : decode cX11_ticks 12 = .ok (.iload_n 1, 1) := by decide +kernel
theorem dX11_ticks_13 : decode cX11_ticks 13 = .ok (.iload_n 3, 1) := by decide +kernel
theorem dX11_ticks_14 : decode cX11_ticks 14 = .ok (.iadd, 1) := by decide +kernel
theorem dX11_ticks_15 : decode cX11_ticks 15 = .ok (.iconst 1, 1) := by decide +kernel
theorem dX11_ticks_16 : decode cX11_ticks 16 = .ok (.isub, 1) := by decide +kernel
theorem dX11_ticks_17 : decode cX11_ticks 17 = .ok (.iload_n 3, 1) := by decide +kernel
theorem dX11_ticks_18 : decode cX11_ticks 18 = .ok (.idiv, 1) := by decide +kernel
theorem dX11_ticks_19 : decode cX11_ticks 19 = .ok (.ireturn, 1) := by decide +kernel
theorem dX11_arrival_0 : decode cX11_arrival 0 = .ok (.iload_n 3, 1) := by decide +kernel
theorem dX11_arrival_1 : decode cX11_arrival 1 = .ok (.aload_n 0, 1) := by decide +kernel
theorem dX11_arrival_2 : decode cX11_arrival 2 = .ok (.aload_n 0, 1) := by decide +kernel
theorem dX11_arrival_3 : decode cX11_arrival 3 = .ok (.iload_n 1, 1) := by decide +kernel
theorem dX11_arrival_4 : decode cX11_arrival 4 = .ok (.iconst 0, 1) := by decide +kernel
theorem dX11_arrival_5 : decode cX11_arrival 5 = .ok (.invokevirtual 127, 3) := by decide +kernel
theorem dX11_arrival_8 : decode cX11_arrival 8 = .ok (.iload_n 2, 1) := by decide +kernel
theorem dX11_arrival_9 : decode cX11_arrival 9 = .ok (.invokevirtual 131, 3) := by decide +kernel
theorem dX11_arrival_12 : decode cX11_arrival 12 = .ok (.iadd, 1) := by decide +kernel
theorem dX11_arrival_13 : decode cX11_arrival 13 = .ok (.aload_n 0, 1) := by decide +kernel
theorem dX11_arrival_14 : decode cX11_arrival 14 = .ok (.getfield 7, 3) := by decide +kernel
theorem dX11_arrival_17 : decode cX11_arrival 17 = .ok (.bipush 6, 2) := by decide +kernel
theorem dX11_arrival_19 : decode cX11_arrival 19 = .ok (.iload_n 2, 1) := by decide +kernel
theorem dX11_arrival_20 : decode cX11_arrival 20 = .ok (.imul, 1) := by decide +kernel
theorem dX11_arrival_21 : decode cX11_arrival 21 = .ok (.iconst 5, 1) := by decide +kernel
theorem dX11_arrival_22 : decode cX11_arrival 22 = .ok (.iadd, 1) := by decide +kernel
theorem dX11_arrival_23 : decode cX11_arrival 23 = .ok (.iaload, 1) := by decide +kernel
theorem dX11_arrival_24 : decode cX11_arrival 24 = .ok (.iadd, 1) := by decide +kernel
theorem dX11_arrival_25 : decode cX11_arrival 25 = .ok (.ireturn, 1) := by decide +kernel
theorem dX11_isOn_0 : decode cX11_isOn 0 = .ok (.aload_n 0, 1) := by decide +kernel
theorem dX11_isOn_1 : decode cX11_isOn 1 = .ok (.iload_n 1, 1) := by decide +kernel
theorem dX11_isOn_2 : decode cX11_isOn 2 = .ok (.bipush 7, 2) := by decide +kernel
theorem dX11_isOn_4 : decode cX11_isOn 4 = .ok (.invokevirtual 127, 3) := by decide +kernel
theorem dX11_isOn_7 : decode cX11_isOn 7 = .ok (.bipush (-9), 2) := by decide +kernel
theorem dX11_isOn_9 : decode cX11_isOn 9 = .ok (.if_icmp .eq 7, 3) := by decide +kernel
theorem dX11_isOn_12 : decode cX11_isOn 12 = .ok (.iconst 1, 1) := by decide +kernel
theorem dX11_isOn_13 : decode cX11_isOn 13 = .ok (.goto 4, 3) := by decide +kernel
theorem dX11_isOn_16 : decode cX11_isOn 16 = .ok (.iconst 0, 1) := by decide +kernel
theorem dX11_isOn_17 : decode cX11_isOn 17 = .ok (.ireturn, 1) := by decide +kernel
theorem dX11_leads_0 : decode cX11_leads 0 = .ok (.aload_n 0, 1) := by decide +kernel
theorem dX11_leads_1 : decode cX11_leads 1 = .ok (.iload_n 1, 1) := by decide +kernel
theorem dX11_leads_2 : decode cX11_leads 2 = .ok (.bipush 9, 2) := by decide +kernel
theorem dX11_leads_4 : decode cX11_leads 4 = .ok (.invokevirtual 127, 3) := by decide +kernel
theorem dX11_leads_7 : decode cX11_leads 7 = .ok (.ifCond .le 33, 3) := by decide +kernel
theorem dX11_leads_10 : decode cX11_leads 10 = .ok (.aload_n 0, 1) := by decide +kernel
theorem dX11_leads_11 : decode cX11_leads 11 = .ok (.getfield 7, 3) := by decide +kernel
theorem dX11_leads_14 : decode cX11_leads 14 = .ok (.bipush 6, 2) := by decide +kernel
theorem dX11_leads_16 : decode cX11_leads 16 = .ok (.aload_n 0, 1) := by decide +kernel
theorem dX11_leads_17 : decode cX11_leads 17 = .ok (.iload_n 1, 1) := by decide +kernel
theorem dX11_leads_18 : decode cX11_leads 18 = .ok (.bipush 10, 2) := by decide +kernel
theorem dX11_leads_20 : decode cX11_leads 20 = .ok (.iconst 2, 1) := by decide +kernel
theorem dX11_leads_21 : decode cX11_leads 21 = .ok (.aload_n 0, 1) := by decide +kernel
theorem dX11_leads_22 : decode cX11_leads 22 = .ok (.iload_n 1, 1) := by decide +kernel
theorem dX11_leads_23 : decode cX11_leads 23 = .ok (.bipush 9, 2) := by decide +kernel
theorem dX11_leads_25 : decode cX11_leads 25 = .ok (.invokevirtual 127, 3) := by decide +kernel
theorem dX11_leads_28 : decode cX11_leads 28 = .ok (.imul, 1) := by decide +kernel
theorem dX11_leads_29 : decode cX11_leads 29 = .ok (.iadd, 1) := by decide +kernel
theorem dX11_leads_30 : decode cX11_leads 30 = .ok (.iconst 2, 1) := by decide +kernel
theorem dX11_leads_31 : decode cX11_leads 31 = .ok (.isub, 1) := by decide +kernel
theorem dX11_leads_32 : decode cX11_leads 32 = .ok (.invokevirtual 127, 3) := by decide +kernel
theorem dX11_leads_35 : decode cX11_leads 35 = .ok (.imul, 1) := by decide +kernel
theorem dX11_leads_36 : decode cX11_leads 36 = .ok (.iconst 1, 1) := by decide +kernel
theorem dX11_leads_37 : decode cX11_leads 37 = .ok (.iadd, 1) := by decide +kernel
theorem dX11_leads_38 : decode cX11_leads 38 = .ok (.iaload, 1) := by decide +kernel
theorem dX11_leads_39 : decode cX11_leads 39 = .ok (.ireturn, 1) := by decide +kernel
theorem dX11_leads_40 : decode cX11_leads 40 = .ok (.aload_n 0, 1) := by decide +kernel
theorem dX11_leads_41 : decode cX11_leads 41 = .ok (.iload_n 1, 1) := by decide +kernel
theorem dX11_leads_42 : decode cX11_leads 42 = .ok (.invokevirtual 134, 3) := by decide +kernel
theorem dX11_leads_45 : decode cX11_leads 45 = .ok (.ifCond .eq 23, 3) := by decide +kernel
theorem dX11_leads_48 : decode cX11_leads 48 = .ok (.aload_n 0, 1) := by decide +kernel
theorem dX11_leads_49 : decode cX11_leads 49 = .ok (.getfield 7, 3) := by decide +kernel
theorem dX11_leads_52 : decode cX11_leads 52 = .ok (.bipush 6, 2) := by decide +kernel
theorem dX11_leads_54 : decode cX11_leads 54 = .ok (.aload_n 0, 1) := by decide +kernel
theorem dX11_leads_55 : decode cX11_leads 55 = .ok (.iload_n 1, 1) := by decide +kernel
theorem dX11_leads_56 : decode cX11_leads 56 = .ok (.bipush 7, 2) := by decide +kernel
theorem dX11_leads_58 : decode cX11_leads 58 = .ok (.invokevirtual 127, 3) := by decide +kernel
theorem dX11_leads_61 : decode cX11_leads 61 = .ok (.imul, 1) := by decide +kernel
theorem dX11_leads_62 : decode cX11_leads 62 = .ok (.iconst 1, 1) := by decide +kernel
theorem dX11_leads_63 : decode cX11_leads 63 = .ok (.iadd, 1) := by decide +kernel
theorem dX11_leads_64 : decode cX11_leads 64 = .ok (.iaload, 1) := by decide +kernel
theorem dX11_leads_65 : decode cX11_leads 65 = .ok (.goto 9, 3) := by decide +kernel
theorem dX11_leads_68 : decode cX11_leads 68 = .ok (.aload_n 0, 1) := by decide +kernel
theorem dX11_leads_69 : decode cX11_leads 69 = .ok (.iload_n 1, 1) := by decide +kernel
theorem dX11_leads_70 : decode cX11_leads 70 = .ok (.iconst 4, 1) := by decide +kernel
theorem dX11_leads_71 : decode cX11_leads 71 = .ok (.invokevirtual 127, 3) := by decide +kernel
theorem dX11_leads_74 : decode cX11_leads 74 = .ok (.ireturn, 1) := by decide +kernel
theorem dX11_stateOf_0 : decode cX11_stateOf 0 = .ok (.aload_n 0, 1) := by decide +kernel
theorem dX11_stateOf_1 : decode cX11_stateOf 1 = .ok (.iload_n 1, 1) := by decide +kernel
theorem dX11_stateOf_2 : decode cX11_stateOf 2 = .ok (.invokevirtual 134, 3) := by decide +kernel
theorem dX11_stateOf_5 : decode cX11_stateOf 5 = .ok (.ifCond .ne 20, 3) := by decide +kernel
theorem dX11_stateOf_8 : decode cX11_stateOf 8 = .ok (.aload_n 0, 1) := by decide +kernel
theorem dX11_stateOf_9 : decode cX11_stateOf 9 = .ok (.iload_n 1, 1) := by decide +kernel
theorem dX11_stateOf_10 : decode cX11_stateOf 10 = .ok (.iconst 4, 1) := by decide +kernel
theorem dX11_stateOf_11 : decode cX11_stateOf 11 = .ok (.invokevirtual 127, 3) := by decide +kernel
theorem dX11_stateOf_14 : decode cX11_stateOf 14 = .ok (.aload_n 0, 1) := by decide +kernel
theorem dX11_stateOf_15 : decode cX11_stateOf 15 = .ok (.iload_n 1, 1) := by decide +kernel
theorem dX11_stateOf_16 : decode cX11_stateOf 16 = .ok (.iconst 1, 1) := by decide +kernel
theorem dX11_stateOf_17 : decode cX11_stateOf 17 = .ok (.invokevirtual 127, 3) := by decide +kernel
theorem dX11_stateOf_20 : decode cX11_stateOf 20 = .ok (.if_icmp .ne 5, 3) := by decide +kernel
theorem dX11_stateOf_23 : decode cX11_stateOf 23 = .ok (.iconst 2, 1) := by decide +kernel
theorem dX11_stateOf_24 : decode cX11_stateOf 24 = .ok (.ireturn, 1) := by decide +kernel
theorem dX11_stateOf_25 : decode cX11_stateOf 25 = .ok (.aload_n 0, 1) := by decide +kernel
theorem dX11_stateOf_26 : decode cX11_stateOf 26 = .ok (.iload_n 1, 1) := by decide +kernel
theorem dX11_stateOf_27 : decode cX11_stateOf 27 = .ok (.iconst 5, 1) := by decide +kernel
theorem dX11_stateOf_28 : decode cX11_stateOf 28 = .ok (.invokevirtual 127, 3) := by decide +kernel
theorem dX11_stateOf_31 : decode cX11_stateOf 31 = .ok (.iconst 1, 1) := by decide +kernel
theorem dX11_stateOf_32 : decode cX11_stateOf 32 = .ok (.if_icmp .ne 5, 3) := by decide +kernel
theorem dX11_stateOf_35 : decode cX11_stateOf 35 = .ok (.iconst 4, 1) := by decide +kernel
theorem dX11_stateOf_36 : decode cX11_stateOf 36 = .ok (.ireturn, 1) := by decide +kernel
theorem dX11_stateOf_37 : decode cX11_stateOf 37 = .ok (.aload_n 0, 1) := by decide +kernel
theorem dX11_stateOf_38 : decode cX11_stateOf 38 = .ok (.getfield 16, 3) := by decide +kernel
theorem dX11_stateOf_41 : decode cX11_stateOf 41 = .ok (.iconst 0, 1) := by decide +kernel
theorem dX11_stateOf_42 : decode cX11_stateOf 42 = .ok (.iaload, 1) := by decide +kernel
theorem dX11_stateOf_43 : decode cX11_stateOf 43 = .ok (.aload_n 0, 1) := by decide +kernel
theorem dX11_stateOf_44 : decode cX11_stateOf 44 = .ok (.iload_n 1, 1) := by decide +kernel
theorem dX11_stateOf_45 : decode cX11_stateOf 45 = .ok (.iconst 2, 1) := by decide +kernel
theorem dX11_stateOf_46 : decode cX11_stateOf 46 = .ok (.invokevirtual 127, 3) := by decide +kernel
theorem dX11_stateOf_49 : decode cX11_stateOf 49 = .ok (.if_icmp .le 5, 3) := by decide +kernel
theorem dX11_stateOf_52 : decode cX11_stateOf 52 = .ok (.iconst 3, 1) := by decide +kernel
theorem dX11_stateOf_53 : decode cX11_stateOf 53 = .ok (.ireturn, 1) := by decide +kernel
theorem dX11_stateOf_54 : decode cX11_stateOf 54 = .ok (.aload_n 0, 1) := by decide +kernel
theorem dX11_stateOf_55 : decode cX11_stateOf 55 = .ok (.iload_n 1, 1) := by decide +kernel
theorem dX11_stateOf_56 : decode cX11_stateOf 56 = .ok (.invokevirtual 137, 3) := by decide +kernel
theorem dX11_stateOf_59 : decode cX11_stateOf 59 = .ok (.aload_n 0, 1) := by decide +kernel
theorem dX11_stateOf_60 : decode cX11_stateOf 60 = .ok (.iload_n 1, 1) := by decide +kernel
theorem dX11_stateOf_61 : decode cX11_stateOf 61 = .ok (.iconst 1, 1) := by decide +kernel
theorem dX11_stateOf_62 : decode cX11_stateOf 62 = .ok (.invokevirtual 127, 3) := by decide +kernel
theorem dX11_stateOf_65 : decode cX11_stateOf 65 = .ok (.if_icmp .ne 7, 3) := by decide +kernel
theorem dX11_stateOf_68 : decode cX11_stateOf 68 = .ok (.iconst 1, 1) := by decide +kernel
theorem dX11_stateOf_69 : decode cX11_stateOf 69 = .ok (.goto 4, 3) := by decide +kernel
theorem dX11_stateOf_72 : decode cX11_stateOf 72 = .ok (.iconst 0, 1) := by decide +kernel
theorem dX11_stateOf_73 : decode cX11_stateOf 73 = .ok (.ireturn, 1) := by decide +kernel
theorem dX11_countOf_0 : decode cX11_countOf 0 = .ok (.iconst 0, 1) := by decide +kernel
theorem dX11_countOf_1 : decode cX11_countOf 1 = .ok (.istore_n 2, 1) := by decide +kernel
theorem dX11_countOf_2 : decode cX11_countOf 2 = .ok (.iconst 0, 1) := by decide +kernel
theorem dX11_countOf_3 : decode cX11_countOf 3 = .ok (.istore_n 3, 1) := by decide +kernel
theorem dX11_countOf_4 : decode cX11_countOf 4 = .ok (.iload_n 3, 1) := by decide +kernel
theorem dX11_countOf_5 : decode cX11_countOf 5 = .ok (.aload_n 0, 1) := by decide +kernel
theorem dX11_countOf_6 : decode cX11_countOf 6 = .ok (.getfield 16, 3) := by decide +kernel
theorem dX11_countOf_9 : decode cX11_countOf 9 = .ok (.iconst 2, 1) := by decide +kernel
theorem dX11_countOf_10 : decode cX11_countOf 10 = .ok (.iaload, 1) := by decide +kernel
theorem dX11_countOf_11 : decode cX11_countOf 11 = .ok (.if_icmp .ge 26, 3) := by decide +kernel
theorem dX11_countOf_14 : decode cX11_countOf 14 = .ok (.iload_n 2, 1) := by decide +kernel
theorem dX11_countOf_15 : decode cX11_countOf 15 = .ok (.aload_n 0, 1) := by decide +kernel
theorem dX11_countOf_16 : decode cX11_countOf 16 = .ok (.iload_n 3, 1) := by decide +kernel
theorem dX11_countOf_17 : decode cX11_countOf 17 = .ok (.invokevirtual 140, 3) := by decide +kernel
theorem dX11_countOf_20 : decode cX11_countOf 20 = .ok (.iload_n 1, 1) := by decide +kernel
theorem dX11_countOf_21 : decode cX11_countOf 21 = .ok (.if_icmp .ne 7, 3) := by decide +kernel
theorem dX11_countOf_24 : decode cX11_countOf 24 = .ok (.iconst 1, 1) := by decide +kernel
theorem dX11_countOf_25 : decode cX11_countOf 25 = .ok (.goto 4, 3) := by decide +kernel
theorem dX11_countOf_28 : decode cX11_countOf 28 = .ok (.iconst 0, 1) := by decide +kernel
theorem dX11_countOf_29 : decode cX11_countOf 29 = .ok (.iadd, 1) := by decide +kernel
theorem dX11_countOf_30 : decode cX11_countOf 30 = .ok (.istore_n 2, 1) := by decide +kernel
theorem dX11_countOf_31 : decode cX11_countOf 31 = .ok (.iinc 3 1, 3) := by decide +kernel
theorem dX11_countOf_34 : decode cX11_countOf 34 = .ok (.goto (-30), 3) := by decide +kernel
theorem dX11_countOf_37 : decode cX11_countOf 37 = .ok (.iload_n 2, 1) := by decide +kernel
theorem dX11_countOf_38 : decode cX11_countOf 38 = .ok (.ireturn, 1) := by decide +kernel
theorem dX11_marks_0 : decode cX11_marks 0 = .ok (.iload_n 3, 1) := by decide +kernel
theorem dX11_marks_1 : decode cX11_marks 1 = .ok (.istore 4, 2) := by decide +kernel
theorem dX11_marks_3 : decode cX11_marks 3 = .ok (.iload 4, 2) := by decide +kernel
theorem dX11_marks_5 : decode cX11_marks 5 = .ok (.iload_n 3, 1) := by decide +kernel
theorem dX11_marks_6 : decode cX11_marks 6 = .ok (.aload_n 0, 1) := by decide +kernel
theorem dX11_marks_7 : decode cX11_marks 7 = .ok (.iload_n 1, 1) := by decide +kernel
theorem dX11_marks_8 : decode cX11_marks 8 = .ok (.iload_n 2, 1) := by decide +kernel
theorem dX11_marks_9 : decode cX11_marks 9 = .ok (.invokevirtual 131, 3) := by decide +kernel
theorem dX11_marks_12 : decode cX11_marks 12 = .ok (.iadd, 1) := by decide +kernel
theorem dX11_marks_13 : decode cX11_marks 13 = .ok (.if_icmp .ge 22, 3) := by decide +kernel
theorem dX11_marks_16 : decode cX11_marks 16 = .ok (.aload_n 0, 1) := by decide +kernel
theorem dX11_marks_17 : decode cX11_marks 17 = .ok (.getfield 44, 3) := by decide +kernel
theorem dX11_marks_20 : decode cX11_marks 20 = .ok (.bipush 100, 2) := by decide +kernel
theorem dX11_marks_22 : decode cX11_marks 22 = .ok (.iload_n 2, 1) := by decide +kernel
theorem dX11_marks_23 : decode cX11_marks 23 = .ok (.imul, 1) := by decide +kernel
theorem dX11_marks_24 : decode cX11_marks 24 = .ok (.iload 4, 2) := by decide +kernel
theorem dX11_marks_26 : decode cX11_marks 26 = .ok (.iadd, 1) := by decide +kernel
theorem dX11_marks_27 : decode cX11_marks 27 = .ok (.iconst 1, 1) := by decide +kernel
theorem dX11_marks_28 : decode cX11_marks 28 = .ok (.bastore, 1) := by decide +kernel
theorem dX11_marks_29 : decode cX11_marks 29 = .ok (.iinc 4 1, 3) := by decide +kernel
theorem dX11_marks_32 : decode cX11_marks 32 = .ok (.goto (-29), 3) := by decide +kernel
theorem dX11_marks_35 : decode cX11_marks 35 = .ok (.return_, 1) := by decide +kernel
theorem dX11_laysTaken_0 : decode cX11_laysTaken 0 = .ok (.iconst 0, 1) := by decide +kernel
theorem dX11_laysTaken_1 : decode cX11_laysTaken 1 = .ok (.istore_n 3, 1) := by decide +kernel
theorem dX11_laysTaken_2 : decode cX11_laysTaken 2 = .ok (.iload_n 3, 1) := by decide +kernel
theorem dX11_laysTaken_3 : decode cX11_laysTaken 3 = .ok (.sipush 800, 3) := by decide +kernel
theorem dX11_laysTaken_6 : decode cX11_laysTaken 6 = .ok (.if_icmp .ge 16, 3) := by decide +kernel
theorem dX11_laysTaken_9 : decode cX11_laysTaken 9 = .ok (.aload_n 0, 1) := by decide +kernel
theorem dX11_laysTaken_10 : decode cX11_laysTaken 10 = .ok (.getfield 44, 3) := by decide +kernel
theorem dX11_laysTaken_13 : decode cX11_laysTaken 13 = .ok (.iload_n 3, 1) := by decide +kernel
theorem dX11_laysTaken_14 : decode cX11_laysTaken 14 = .ok (.iconst 0, 1) := by decide +kernel
theorem dX11_laysTaken_15 : decode cX11_laysTaken 15 = .ok (.bastore, 1) := by decide +kernel
theorem dX11_laysTaken_16 : decode cX11_laysTaken 16 = .ok (.iinc 3 1, 3) := by decide +kernel
theorem dX11_laysTaken_19 : decode cX11_laysTaken 19 = .ok (.goto (-17), 3) := by decide +kernel
theorem dX11_laysTaken_22 : decode cX11_laysTaken 22 = .ok (.iconst 0, 1) := by decide +kernel
theorem dX11_laysTaken_23 : decode cX11_laysTaken 23 = .ok (.istore_n 3, 1) := by decide +kernel
theorem dX11_laysTaken_24 : decode cX11_laysTaken 24 = .ok (.iload_n 3, 1) := by decide +kernel
theorem dX11_laysTaken_25 : decode cX11_laysTaken 25 = .ok (.aload_n 0, 1) := by decide +kernel
theorem dX11_laysTaken_26 : decode cX11_laysTaken 26 = .ok (.getfield 16, 3) := by decide +kernel
theorem dX11_laysTaken_29 : decode cX11_laysTaken 29 = .ok (.iconst 2, 1) := by decide +kernel
theorem dX11_laysTaken_30 : decode cX11_laysTaken 30 = .ok (.iaload, 1) := by decide +kernel
theorem dX11_laysTaken_31 : decode cX11_laysTaken 31 = .ok (.if_icmp .ge 113, 3) := by decide +kernel
theorem dX11_laysTaken_34 : decode cX11_laysTaken 34 = .ok (.aload_n 0, 1) := by decide +kernel
theorem dX11_laysTaken_35 : decode cX11_laysTaken 35 = .ok (.iload_n 3, 1) := by decide +kernel
theorem dX11_laysTaken_36 : decode cX11_laysTaken 36 = .ok (.invokevirtual 134, 3) := by decide +kernel
theorem dX11_laysTaken_39 : decode cX11_laysTaken 39 = .ok (.ifCond .eq 27, 3) := by decide +kernel
theorem dX11_laysTaken_42 : decode cX11_laysTaken 42 = .ok (.aload_n 0, 1) := by decide +kernel
theorem dX11_laysTaken_43 : decode cX11_laysTaken 43 = .ok (.aload_n 0, 1) := by decide +kernel
theorem dX11_laysTaken_44 : decode cX11_laysTaken 44 = .ok (.iload_n 3, 1) := by decide +kernel
theorem dX11_laysTaken_45 : decode cX11_laysTaken 45 = .ok (.iconst 0, 1) := by decide +kernel
theorem dX11_laysTaken_46 : decode cX11_laysTaken 46 = .ok (.invokevirtual 127, 3) := by decide +kernel
theorem dX11_laysTaken_49 : decode cX11_laysTaken 49 = .ok (.aload_n 0, 1) := by decide +kernel
theorem dX11_laysTaken_50 : decode cX11_laysTaken 50 = .ok (.iload_n 3, 1) := by decide +kernel
theorem dX11_laysTaken_51 : decode cX11_laysTaken 51 = .ok (.bipush 7, 2) := by decide +kernel
theorem dX11_laysTaken_53 : decode cX11_laysTaken 53 = .ok (.invokevirtual 127, 3) := by decide +kernel
theorem dX11_laysTaken_56 : decode cX11_laysTaken 56 = .ok (.aload_n 0, 1) := by decide +kernel
theorem dX11_laysTaken_57 : decode cX11_laysTaken 57 = .ok (.iload_n 3, 1) := by decide +kernel
theorem dX11_laysTaken_58 : decode cX11_laysTaken 58 = .ok (.bipush 8, 2) := by decide +kernel
theorem dX11_laysTaken_60 : decode cX11_laysTaken 60 = .ok (.invokevirtual 127, 3) := by decide +kernel
theorem dX11_laysTaken_63 : decode cX11_laysTaken 63 = .ok (.invokevirtual 143, 3) := by decide +kernel
theorem dX11_laysTaken_66 : decode cX11_laysTaken 66 = .ok (.iconst 0, 1) := by decide +kernel
theorem dX11_laysTaken_67 : decode cX11_laysTaken 67 = .ok (.istore 4, 2) := by decide +kernel
theorem dX11_laysTaken_69 : decode cX11_laysTaken 69 = .ok (.iload 4, 2) := by decide +kernel
theorem dX11_laysTaken_71 : decode cX11_laysTaken 71 = .ok (.aload_n 0, 1) := by decide +kernel
theorem dX11_laysTaken_72 : decode cX11_laysTaken 72 = .ok (.iload_n 3, 1) := by decide +kernel
theorem dX11_laysTaken_73 : decode cX11_laysTaken 73 = .ok (.bipush 9, 2) := by decide +kernel
theorem dX11_laysTaken_75 : decode cX11_laysTaken 75 = .ok (.invokevirtual 127, 3) := by decide +kernel
theorem dX11_laysTaken_78 : decode cX11_laysTaken 78 = .ok (.if_icmp .ge 60, 3) := by decide +kernel
theorem dX11_laysTaken_81 : decode cX11_laysTaken 81 = .ok (.iload_n 3, 1) := by decide +kernel
theorem dX11_laysTaken_82 : decode cX11_laysTaken 82 = .ok (.iload_n 1, 1) := by decide +kernel
theorem dX11_laysTaken_83 : decode cX11_laysTaken 83 = .ok (.if_icmp .eq 55, 3) := by decide +kernel
theorem dX11_laysTaken_86 : decode cX11_laysTaken 86 = .ok (.aload_n 0, 1) := by decide +kernel
theorem dX11_laysTaken_87 : decode cX11_laysTaken 87 = .ok (.iload_n 3, 1) := by decide +kernel
theorem dX11_laysTaken_88 : decode cX11_laysTaken 88 = .ok (.iconst 3, 1) := by decide +kernel
theorem dX11_laysTaken_89 : decode cX11_laysTaken 89 = .ok (.invokevirtual 127, 3) := by decide +kernel
theorem dX11_laysTaken_92 : decode cX11_laysTaken 92 = .ok (.iload_n 2, 1) := by decide +kernel
theorem dX11_laysTaken_93 : decode cX11_laysTaken 93 = .ok (.if_icmp .lt 45, 3) := by decide +kernel
theorem dX11_laysTaken_96 : decode cX11_laysTaken 96 = .ok (.aload_n 0, 1) := by decide +kernel
theorem dX11_laysTaken_97 : decode cX11_laysTaken 97 = .ok (.aload_n 0, 1) := by decide +kernel
theorem dX11_laysTaken_98 : decode cX11_laysTaken 98 = .ok (.iload_n 3, 1) := by decide +kernel
theorem dX11_laysTaken_99 : decode cX11_laysTaken 99 = .ok (.iconst 0, 1) := by decide +kernel
theorem dX11_laysTaken_100 : decode cX11_laysTaken 100 = .ok (.invokevirtual 127, 3) := by decide +kernel
theorem dX11_laysTaken_103 : decode cX11_laysTaken 103 = .ok (.aload_n 0, 1) := by decide +kernel
theorem dX11_laysTaken_104 : decode cX11_laysTaken 104 = .ok (.iload_n 3, 1) := by decide +kernel
theorem dX11_laysTaken_105 : decode cX11_laysTaken 105 = .ok (.bipush 10, 2) := by decide +kernel
theorem dX11_laysTaken_107 : decode cX11_laysTaken 107 = .ok (.iconst 2, 1) := by decide +kernel
theorem dX11_laysTaken_108 : decode cX11_laysTaken 108 = .ok (.iload 4, 2) := by decide +kernel
theorem dX11_laysTaken_110 : decode cX11_laysTaken 110 = .ok (.imul, 1) := by decide +kernel
theorem dX11_laysTaken_111 : decode cX11_laysTaken 111 = .ok (.iadd, 1) := by decide +kernel
theorem dX11_laysTaken_112 : decode cX11_laysTaken 112 = .ok (.invokevirtual 127, 3) := by decide +kernel
theorem dX11_laysTaken_115 : decode cX11_laysTaken 115 = .ok (.aload_n 0, 1) := by decide +kernel
theorem dX11_laysTaken_116 : decode cX11_laysTaken 116 = .ok (.iload_n 3, 1) := by decide +kernel
theorem dX11_laysTaken_117 : decode cX11_laysTaken 117 = .ok (.bipush 10, 2) := by decide +kernel
theorem dX11_laysTaken_119 : decode cX11_laysTaken 119 = .ok (.iconst 2, 1) := by decide +kernel
theorem dX11_laysTaken_120 : decode cX11_laysTaken 120 = .ok (.iload 4, 2) := by decide +kernel
theorem dX11_laysTaken_122 : decode cX11_laysTaken 122 = .ok (.imul, 1) := by decide +kernel
theorem dX11_laysTaken_123 : decode cX11_laysTaken 123 = .ok (.iadd, 1) := by decide +kernel
theorem dX11_laysTaken_124 : decode cX11_laysTaken 124 = .ok (.iconst 1, 1) := by decide +kernel
theorem dX11_laysTaken_125 : decode cX11_laysTaken 125 = .ok (.iadd, 1) := by decide +kernel
theorem dX11_laysTaken_126 : decode cX11_laysTaken 126 = .ok (.invokevirtual 127, 3) := by decide +kernel
theorem dX11_laysTaken_129 : decode cX11_laysTaken 129 = .ok (.invokevirtual 143, 3) := by decide +kernel
theorem dX11_laysTaken_132 : decode cX11_laysTaken 132 = .ok (.iinc 4 1, 3) := by decide +kernel
theorem dX11_laysTaken_135 : decode cX11_laysTaken 135 = .ok (.goto (-66), 3) := by decide +kernel
theorem dX11_laysTaken_138 : decode cX11_laysTaken 138 = .ok (.iinc 3 1, 3) := by decide +kernel
theorem dX11_laysTaken_141 : decode cX11_laysTaken 141 = .ok (.goto (-117), 3) := by decide +kernel
theorem dX11_laysTaken_144 : decode cX11_laysTaken 144 = .ok (.return_, 1) := by decide +kernel
theorem dX11_beginsAt_0 : decode cX11_beginsAt 0 = .ok (.aload_n 0, 1) := by decide +kernel
theorem dX11_beginsAt_1 : decode cX11_beginsAt 1 = .ok (.iload_n 1, 1) := by decide +kernel
theorem dX11_beginsAt_2 : decode cX11_beginsAt 2 = .ok (.iload_n 2, 1) := by decide +kernel
theorem dX11_beginsAt_3 : decode cX11_beginsAt 3 = .ok (.invokevirtual 131, 3) := by decide +kernel
theorem dX11_beginsAt_6 : decode cX11_beginsAt 6 = .ok (.istore 4, 2) := by decide +kernel
theorem dX11_beginsAt_8 : decode cX11_beginsAt 8 = .ok (.iload_n 3, 1) := by decide +kernel
theorem dX11_beginsAt_9 : decode cX11_beginsAt 9 = .ok (.aload_n 0, 1) := by decide +kernel
theorem dX11_beginsAt_10 : decode cX11_beginsAt 10 = .ok (.getfield 7, 3) := by decide +kernel
theorem dX11_beginsAt_13 : decode cX11_beginsAt 13 = .ok (.bipush 6, 2) := by decide +kernel
theorem dX11_beginsAt_15 : decode cX11_beginsAt 15 = .ok (.iload_n 2, 1) := by decide +kernel
theorem dX11_beginsAt_16 : decode cX11_beginsAt 16 = .ok (.imul, 1) := by decide +kernel
theorem dX11_beginsAt_17 : decode cX11_beginsAt 17 = .ok (.iconst 2, 1) := by decide +kernel
theorem dX11_beginsAt_18 : decode cX11_beginsAt 18 = .ok (.iadd, 1) := by decide +kernel
theorem dX11_beginsAt_19 : decode cX11_beginsAt 19 = .ok (.iaload, 1) := by decide +kernel
theorem dX11_beginsAt_20 : decode cX11_beginsAt 20 = .ok (.if_icmp .le 7, 3) := by decide +kernel
theorem dX11_beginsAt_23 : decode cX11_beginsAt 23 = .ok (.iload_n 3, 1) := by decide +kernel
theorem dX11_beginsAt_24 : decode cX11_beginsAt 24 = .ok (.goto 14, 3) := by decide +kernel
theorem dX11_beginsAt_27 : decode cX11_beginsAt 27 = .ok (.aload_n 0, 1) := by decide +kernel
theorem dX11_beginsAt_28 : decode cX11_beginsAt 28 = .ok (.getfield 7, 3) := by decide +kernel
theorem dX11_beginsAt_31 : decode cX11_beginsAt 31 = .ok (.bipush 6, 2) := by decide +kernel
theorem dX11_beginsAt_33 : decode cX11_beginsAt 33 = .ok (.iload_n 2, 1) := by decide +kernel
theorem dX11_beginsAt_34 : decode cX11_beginsAt 34 = .ok (.imul, 1) := by decide +kernel
theorem dX11_beginsAt_35 : decode cX11_beginsAt 35 = .ok (.iconst 2, 1) := by decide +kernel
theorem dX11_beginsAt_36 : decode cX11_beginsAt 36 = .ok (.iadd, 1) := by decide +kernel
theorem dX11_beginsAt_37 : decode cX11_beginsAt 37 = .ok (.iaload, 1) := by decide +kernel
theorem dX11_beginsAt_38 : decode cX11_beginsAt 38 = .ok (.istore 5, 2) := by decide +kernel
theorem dX11_beginsAt_40 : decode cX11_beginsAt 40 = .ok (.iload 5, 2) := by decide +kernel
theorem dX11_beginsAt_42 : decode cX11_beginsAt 42 = .ok (.aload_n 0, 1) := by decide +kernel
theorem dX11_beginsAt_43 : decode cX11_beginsAt 43 = .ok (.getfield 16, 3) := by decide +kernel
theorem dX11_beginsAt_46 : decode cX11_beginsAt 46 = .ok (.iconst 0, 1) := by decide +kernel
theorem dX11_beginsAt_47 : decode cX11_beginsAt 47 = .ok (.iaload, 1) := by decide +kernel
theorem dX11_beginsAt_48 : decode cX11_beginsAt 48 = .ok (.if_icmp .le 8, 3) := by decide +kernel
theorem dX11_beginsAt_51 : decode cX11_beginsAt 51 = .ok (.iload 5, 2) := by decide +kernel
theorem dX11_beginsAt_53 : decode cX11_beginsAt 53 = .ok (.goto 9, 3) := by decide +kernel
theorem dX11_beginsAt_56 : decode cX11_beginsAt 56 = .ok (.aload_n 0, 1) := by decide +kernel
theorem dX11_beginsAt_57 : decode cX11_beginsAt 57 = .ok (.getfield 16, 3) := by decide +kernel
theorem dX11_beginsAt_60 : decode cX11_beginsAt 60 = .ok (.iconst 0, 1) := by decide +kernel
theorem dX11_beginsAt_61 : decode cX11_beginsAt 61 = .ok (.iaload, 1) := by decide +kernel
theorem dX11_beginsAt_62 : decode cX11_beginsAt 62 = .ok (.istore 5, 2) := by decide +kernel
theorem dX11_beginsAt_64 : decode cX11_beginsAt 64 = .ok (.iconst 0, 1) := by decide +kernel
theorem dX11_beginsAt_65 : decode cX11_beginsAt 65 = .ok (.istore 6, 2) := by decide +kernel
theorem dX11_beginsAt_67 : decode cX11_beginsAt 67 = .ok (.iload 5, 2) := by decide +kernel
theorem dX11_beginsAt_69 : decode cX11_beginsAt 69 = .ok (.aload_n 0, 1) := by decide +kernel
theorem dX11_beginsAt_70 : decode cX11_beginsAt 70 = .ok (.getfield 7, 3) := by decide +kernel
theorem dX11_beginsAt_73 : decode cX11_beginsAt 73 = .ok (.bipush 6, 2) := by decide +kernel
theorem dX11_beginsAt_75 : decode cX11_beginsAt 75 = .ok (.iload_n 2, 1) := by decide +kernel
theorem dX11_beginsAt_76 : decode cX11_beginsAt 76 = .ok (.imul, 1) := by decide +kernel
theorem dX11_beginsAt_77 : decode cX11_beginsAt 77 = .ok (.iconst 3, 1) := by decide +kernel
theorem dX11_beginsAt_78 : decode cX11_beginsAt 78 = .ok (.iadd, 1) := by decide +kernel
theorem dX11_beginsAt_79 : decode cX11_beginsAt 79 = .ok (.iaload, 1) := by decide +kernel
theorem dX11_beginsAt_80 : decode cX11_beginsAt 80 = .ok (.if_icmp .ge 49, 3) := by decide +kernel
theorem dX11_beginsAt_83 : decode cX11_beginsAt 83 = .ok (.aload_n 0, 1) := by decide +kernel
theorem dX11_beginsAt_84 : decode cX11_beginsAt 84 = .ok (.getfield 44, 3) := by decide +kernel
theorem dX11_beginsAt_87 : decode cX11_beginsAt 87 = .ok (.bipush 100, 2) := by decide +kernel
theorem dX11_beginsAt_89 : decode cX11_beginsAt 89 = .ok (.iload_n 2, 1) := by decide +kernel
theorem dX11_beginsAt_90 : decode cX11_beginsAt 90 = .ok (.imul, 1) := by decide +kernel
theorem dX11_beginsAt_91 : decode cX11_beginsAt 91 = .ok (.iload 5, 2) := by decide +kernel
theorem dX11_beginsAt_93 : decode cX11_beginsAt 93 = .ok (.iadd, 1) := by decide +kernel
theorem dX11_beginsAt_94 : decode cX11_beginsAt 94 = .ok (.baload, 1) := by decide +kernel
theorem dX11_beginsAt_95 : decode cX11_beginsAt 95 = .ok (.ifCond .eq 7, 3) := by decide +kernel
theorem dX11_beginsAt_98 : decode cX11_beginsAt 98 = .ok (.iconst 0, 1) := by decide +kernel
theorem dX11_beginsAt_99 : decode cX11_beginsAt 99 = .ok (.goto 7, 3) := by decide +kernel
theorem dX11_beginsAt_102 : decode cX11_beginsAt 102 = .ok (.iload 6, 2) := by decide +kernel
theorem dX11_beginsAt_104 : decode cX11_beginsAt 104 = .ok (.iconst 1, 1) := by decide +kernel
theorem dX11_beginsAt_105 : decode cX11_beginsAt 105 = .ok (.iadd, 1) := by decide +kernel
theorem dX11_beginsAt_106 : decode cX11_beginsAt 106 = .ok (.istore 6, 2) := by decide +kernel
theorem dX11_beginsAt_108 : decode cX11_beginsAt 108 = .ok (.iload 6, 2) := by decide +kernel
theorem dX11_beginsAt_110 : decode cX11_beginsAt 110 = .ok (.iload 4, 2) := by decide +kernel
theorem dX11_beginsAt_112 : decode cX11_beginsAt 112 = .ok (.if_icmp .ne 11, 3) := by decide +kernel
theorem dX11_beginsAt_115 : decode cX11_beginsAt 115 = .ok (.iload 5, 2) := by decide +kernel
theorem dX11_beginsAt_117 : decode cX11_beginsAt 117 = .ok (.iconst 1, 1) := by decide +kernel
theorem dX11_beginsAt_118 : decode cX11_beginsAt 118 = .ok (.iadd, 1) := by decide +kernel
theorem dX11_beginsAt_119 : decode cX11_beginsAt 119 = .ok (.iload 4, 2) := by decide +kernel
theorem dX11_beginsAt_121 : decode cX11_beginsAt 121 = .ok (.isub, 1) := by decide +kernel
theorem dX11_beginsAt_122 : decode cX11_beginsAt 122 = .ok (.ireturn, 1) := by decide +kernel
theorem dX11_beginsAt_123 : decode cX11_beginsAt 123 = .ok (.iinc 5 1, 3) := by decide +kernel
theorem dX11_beginsAt_126 : decode cX11_beginsAt 126 = .ok (.goto (-59), 3) := by decide +kernel
theorem dX11_beginsAt_129 : decode cX11_beginsAt 129 = .ok (.sipush 9999, 3) := by decide +kernel
theorem dX11_beginsAt_132 : decode cX11_beginsAt 132 = .ok (.ireturn, 1) := by decide +kernel
theorem dX11_endsAt_0 : decode cX11_endsAt 0 = .ok (.aload_n 0, 1) := by decide +kernel
theorem dX11_endsAt_1 : decode cX11_endsAt 1 = .ok (.iload_n 1, 1) := by decide +kernel
theorem dX11_endsAt_2 : decode cX11_endsAt 2 = .ok (.iload_n 2, 1) := by decide +kernel
theorem dX11_endsAt_3 : decode cX11_endsAt 3 = .ok (.iload_n 3, 1) := by decide +kernel
theorem dX11_endsAt_4 : decode cX11_endsAt 4 = .ok (.invokevirtual 147, 3) := by decide +kernel
theorem dX11_endsAt_7 : decode cX11_endsAt 7 = .ok (.istore 4, 2) := by decide +kernel
theorem dX11_endsAt_9 : decode cX11_endsAt 9 = .ok (.iload 4, 2) := by decide +kernel
theorem dX11_endsAt_11 : decode cX11_endsAt 11 = .ok (.sipush 9999, 3) := by decide +kernel
theorem dX11_endsAt_14 : decode cX11_endsAt 14 = .ok (.if_icmp .ne 9, 3) := by decide +kernel
theorem dX11_endsAt_17 : decode cX11_endsAt 17 = .ok (.sipush 9999, 3) := by decide +kernel
theorem dX11_endsAt_20 : decode cX11_endsAt 20 = .ok (.goto 24, 3) := by decide +kernel
theorem dX11_endsAt_23 : decode cX11_endsAt 23 = .ok (.iload 4, 2) := by decide +kernel
theorem dX11_endsAt_25 : decode cX11_endsAt 25 = .ok (.aload_n 0, 1) := by decide +kernel
theorem dX11_endsAt_26 : decode cX11_endsAt 26 = .ok (.iload_n 1, 1) := by decide +kernel
theorem dX11_endsAt_27 : decode cX11_endsAt 27 = .ok (.iload_n 2, 1) := by decide +kernel
theorem dX11_endsAt_28 : decode cX11_endsAt 28 = .ok (.invokevirtual 131, 3) := by decide +kernel
theorem dX11_endsAt_31 : decode cX11_endsAt 31 = .ok (.iadd, 1) := by decide +kernel
theorem dX11_endsAt_32 : decode cX11_endsAt 32 = .ok (.aload_n 0, 1) := by decide +kernel
theorem dX11_endsAt_33 : decode cX11_endsAt 33 = .ok (.getfield 7, 3) := by decide +kernel
theorem dX11_endsAt_36 : decode cX11_endsAt 36 = .ok (.bipush 6, 2) := by decide +kernel
theorem dX11_endsAt_38 : decode cX11_endsAt 38 = .ok (.iload_n 2, 1) := by decide +kernel
theorem dX11_endsAt_39 : decode cX11_endsAt 39 = .ok (.imul, 1) := by decide +kernel
theorem dX11_endsAt_40 : decode cX11_endsAt 40 = .ok (.iconst 5, 1) := by decide +kernel
theorem dX11_endsAt_41 : decode cX11_endsAt 41 = .ok (.iadd, 1) := by decide +kernel
theorem dX11_endsAt_42 : decode cX11_endsAt 42 = .ok (.iaload, 1) := by decide +kernel
theorem dX11_endsAt_43 : decode cX11_endsAt 43 = .ok (.iadd, 1) := by decide +kernel
theorem dX11_endsAt_44 : decode cX11_endsAt 44 = .ok (.ireturn, 1) := by decide +kernel
theorem dX11_laysFirst_0 : decode cX11_laysFirst 0 = .ok (.iconst 0, 1) := by decide +kernel
theorem dX11_laysFirst_1 : decode cX11_laysFirst 1 = .ok (.istore 6, 2) := by decide +kernel
theorem dX11_laysFirst_3 : decode cX11_laysFirst 3 = .ok (.iload 6, 2) := by decide +kernel
theorem dX11_laysFirst_5 : decode cX11_laysFirst 5 = .ok (.bipush 6, 2) := by decide +kernel
theorem dX11_laysFirst_7 : decode cX11_laysFirst 7 = .ok (.if_icmp .ge 29, 3) := by decide +kernel
theorem dX11_laysFirst_10 : decode cX11_laysFirst 10 = .ok (.aload_n 0, 1) := by decide +kernel
theorem dX11_laysFirst_11 : decode cX11_laysFirst 11 = .ok (.getfield 47, 3) := by decide +kernel
theorem dX11_laysFirst_14 : decode cX11_laysFirst 14 = .ok (.iload 6, 2) := by decide +kernel
theorem dX11_laysFirst_16 : decode cX11_laysFirst 16 = .ok (.iload 6, 2) := by decide +kernel
theorem dX11_laysFirst_18 : decode cX11_laysFirst 18 = .ok (.iload_n 2, 1) := by decide +kernel
theorem dX11_laysFirst_19 : decode cX11_laysFirst 19 = .ok (.if_icmp .ne 7, 3) := by decide +kernel
theorem dX11_laysFirst_22 : decode cX11_laysFirst 22 = .ok (.iload_n 3, 1) := by decide +kernel
theorem dX11_laysFirst_23 : decode cX11_laysFirst 23 = .ok (.goto 6, 3) := by decide +kernel
theorem dX11_laysFirst_26 : decode cX11_laysFirst 26 = .ok (.sipush 9999, 3) := by decide +kernel
theorem dX11_laysFirst_29 : decode cX11_laysFirst 29 = .ok (.iastore, 1) := by decide +kernel
theorem dX11_laysFirst_30 : decode cX11_laysFirst 30 = .ok (.iinc 6 1, 3) := by decide +kernel
theorem dX11_laysFirst_33 : decode cX11_laysFirst 33 = .ok (.goto (-30), 3) := by decide +kernel
theorem dX11_laysFirst_36 : decode cX11_laysFirst 36 = .ok (.iconst 1, 1) := by decide +kernel
theorem dX11_laysFirst_37 : decode cX11_laysFirst 37 = .ok (.istore 6, 2) := by decide +kernel
theorem dX11_laysFirst_39 : decode cX11_laysFirst 39 = .ok (.iload 6, 2) := by decide +kernel
theorem dX11_laysFirst_41 : decode cX11_laysFirst 41 = .ok (.iload 4, 2) := by decide +kernel
theorem dX11_laysFirst_43 : decode cX11_laysFirst 43 = .ok (.if_icmp .gt 184, 3) := by decide +kernel
theorem dX11_laysFirst_46 : decode cX11_laysFirst 46 = .ok (.iconst 0, 1) := by decide +kernel
theorem dX11_laysFirst_47 : decode cX11_laysFirst 47 = .ok (.istore 7, 2) := by decide +kernel
theorem dX11_laysFirst_49 : decode cX11_laysFirst 49 = .ok (.iload 7, 2) := by decide +kernel
theorem dX11_laysFirst_51 : decode cX11_laysFirst 51 = .ok (.bipush 6, 2) := by decide +kernel
theorem dX11_laysFirst_53 : decode cX11_laysFirst 53 = .ok (.if_icmp .ge 38, 3) := by decide +kernel
theorem dX11_laysFirst_56 : decode cX11_laysFirst 56 = .ok (.aload_n 0, 1) := by decide +kernel
theorem dX11_laysFirst_57 : decode cX11_laysFirst 57 = .ok (.getfield 47, 3) := by decide +kernel
theorem dX11_laysFirst_60 : decode cX11_laysFirst 60 = .ok (.bipush 6, 2) := by decide +kernel
theorem dX11_laysFirst_62 : decode cX11_laysFirst 62 = .ok (.iload 6, 2) := by decide +kernel
theorem dX11_laysFirst_64 : decode cX11_laysFirst 64 = .ok (.imul, 1) := by decide +kernel
theorem dX11_laysFirst_65 : decode cX11_laysFirst 65 = .ok (.iload 7, 2) := by decide +kernel
theorem dX11_laysFirst_67 : decode cX11_laysFirst 67 = .ok (.iadd, 1) := by decide +kernel
theorem dX11_laysFirst_68 : decode cX11_laysFirst 68 = .ok (.aload_n 0, 1) := by decide +kernel
theorem dX11_laysFirst_69 : decode cX11_laysFirst 69 = .ok (.getfield 47, 3) := by decide +kernel
theorem dX11_laysFirst_72 : decode cX11_laysFirst 72 = .ok (.bipush 6, 2) := by decide +kernel
theorem dX11_laysFirst_74 : decode cX11_laysFirst 74 = .ok (.iload 6, 2) := by decide +kernel
theorem dX11_laysFirst_76 : decode cX11_laysFirst 76 = .ok (.imul, 1) := by decide +kernel
theorem dX11_laysFirst_77 : decode cX11_laysFirst 77 = .ok (.bipush 6, 2) := by decide +kernel
theorem dX11_laysFirst_79 : decode cX11_laysFirst 79 = .ok (.isub, 1) := by decide +kernel
theorem dX11_laysFirst_80 : decode cX11_laysFirst 80 = .ok (.iload 7, 2) := by decide +kernel
theorem dX11_laysFirst_82 : decode cX11_laysFirst 82 = .ok (.iadd, 1) := by decide +kernel
theorem dX11_laysFirst_83 : decode cX11_laysFirst 83 = .ok (.iaload, 1) := by decide +kernel
theorem dX11_laysFirst_84 : decode cX11_laysFirst 84 = .ok (.iastore, 1) := by decide +kernel
theorem dX11_laysFirst_85 : decode cX11_laysFirst 85 = .ok (.iinc 7 1, 3) := by decide +kernel
theorem dX11_laysFirst_88 : decode cX11_laysFirst 88 = .ok (.goto (-39), 3) := by decide +kernel
theorem dX11_laysFirst_91 : decode cX11_laysFirst 91 = .ok (.iconst 0, 1) := by decide +kernel
theorem dX11_laysFirst_92 : decode cX11_laysFirst 92 = .ok (.istore 7, 2) := by decide +kernel
theorem dX11_laysFirst_94 : decode cX11_laysFirst 94 = .ok (.iload 7, 2) := by decide +kernel
theorem dX11_laysFirst_96 : decode cX11_laysFirst 96 = .ok (.aload_n 0, 1) := by decide +kernel
theorem dX11_laysFirst_97 : decode cX11_laysFirst 97 = .ok (.getfield 73, 3) := by decide +kernel
theorem dX11_laysFirst_100 : decode cX11_laysFirst 100 = .ok (.if_icmp .ge 121, 3) := by decide +kernel
theorem dX11_laysFirst_103 : decode cX11_laysFirst 103 = .ok (.aload_n 0, 1) := by decide +kernel
theorem dX11_laysFirst_104 : decode cX11_laysFirst 104 = .ok (.getfield 47, 3) := by decide +kernel
theorem dX11_laysFirst_107 : decode cX11_laysFirst 107 = .ok (.bipush 6, 2) := by decide +kernel
theorem dX11_laysFirst_109 : decode cX11_laysFirst 109 = .ok (.iload 6, 2) := by decide +kernel
theorem dX11_laysFirst_111 : decode cX11_laysFirst 111 = .ok (.imul, 1) := by decide +kernel
theorem dX11_laysFirst_112 : decode cX11_laysFirst 112 = .ok (.bipush 6, 2) := by decide +kernel
theorem dX11_laysFirst_114 : decode cX11_laysFirst 114 = .ok (.isub, 1) := by decide +kernel
theorem dX11_laysFirst_115 : decode cX11_laysFirst 115 = .ok (.aload_n 0, 1) := by decide +kernel
theorem dX11_laysFirst_116 : decode cX11_laysFirst 116 = .ok (.getfield 7, 3) := by decide +kernel
theorem dX11_laysFirst_119 : decode cX11_laysFirst 119 = .ok (.bipush 6, 2) := by decide +kernel
theorem dX11_laysFirst_121 : decode cX11_laysFirst 121 = .ok (.iload 7, 2) := by decide +kernel
theorem dX11_laysFirst_123 : decode cX11_laysFirst 123 = .ok (.imul, 1) := by decide +kernel
theorem dX11_laysFirst_124 : decode cX11_laysFirst 124 = .ok (.iaload, 1) := by decide +kernel
theorem dX11_laysFirst_125 : decode cX11_laysFirst 125 = .ok (.iadd, 1) := by decide +kernel
theorem dX11_laysFirst_126 : decode cX11_laysFirst 126 = .ok (.iaload, 1) := by decide +kernel
theorem dX11_laysFirst_127 : decode cX11_laysFirst 127 = .ok (.istore 8, 2) := by decide +kernel
theorem dX11_laysFirst_129 : decode cX11_laysFirst 129 = .ok (.iload 7, 2) := by decide +kernel
theorem dX11_laysFirst_131 : decode cX11_laysFirst 131 = .ok (.iload 5, 2) := by decide +kernel
theorem dX11_laysFirst_133 : decode cX11_laysFirst 133 = .ok (.if_icmp .eq 82, 3) := by decide +kernel
theorem dX11_laysFirst_136 : decode cX11_laysFirst 136 = .ok (.aload_n 0, 1) := by decide +kernel
theorem dX11_laysFirst_137 : decode cX11_laysFirst 137 = .ok (.iload 7, 2) := by decide +kernel
theorem dX11_laysFirst_139 : decode cX11_laysFirst 139 = .ok (.invokevirtual 120, 3) := by decide +kernel
theorem dX11_laysFirst_142 : decode cX11_laysFirst 142 = .ok (.ifCond .ne 73, 3) := by decide +kernel
theorem dX11_laysFirst_145 : decode cX11_laysFirst 145 = .ok (.iload 8, 2) := by decide +kernel
theorem dX11_laysFirst_147 : decode cX11_laysFirst 147 = .ok (.sipush 9999, 3) := by decide +kernel
theorem dX11_laysFirst_150 : decode cX11_laysFirst 150 = .ok (.if_icmp .ge 65, 3) := by decide +kernel
theorem dX11_laysFirst_153 : decode cX11_laysFirst 153 = .ok (.aload_n 0, 1) := by decide +kernel
theorem dX11_laysFirst_154 : decode cX11_laysFirst 154 = .ok (.iload_n 1, 1) := by decide +kernel
theorem dX11_laysFirst_155 : decode cX11_laysFirst 155 = .ok (.iload 7, 2) := by decide +kernel
theorem dX11_laysFirst_157 : decode cX11_laysFirst 157 = .ok (.iload 8, 2) := by decide +kernel
theorem dX11_laysFirst_159 : decode cX11_laysFirst 159 = .ok (.invokevirtual 151, 3) := by decide +kernel
theorem dX11_laysFirst_162 : decode cX11_laysFirst 162 = .ok (.istore 9, 2) := by decide +kernel
theorem dX11_laysFirst_164 : decode cX11_laysFirst 164 = .ok (.bipush 6, 2) := by decide +kernel
theorem dX11_laysFirst_166 : decode cX11_laysFirst 166 = .ok (.iload 6, 2) := by decide +kernel
theorem dX11_laysFirst_168 : decode cX11_laysFirst 168 = .ok (.imul, 1) := by decide +kernel
theorem dX11_laysFirst_169 : decode cX11_laysFirst 169 = .ok (.aload_n 0, 1) := by decide +kernel
theorem dX11_laysFirst_170 : decode cX11_laysFirst 170 = .ok (.getfield 7, 3) := by decide +kernel
theorem dX11_laysFirst_173 : decode cX11_laysFirst 173 = .ok (.bipush 6, 2) := by decide +kernel
theorem dX11_laysFirst_175 : decode cX11_laysFirst 175 = .ok (.iload 7, 2) := by decide +kernel
theorem dX11_laysFirst_177 : decode cX11_laysFirst 177 = .ok (.imul, 1) := by decide +kernel
theorem dX11_laysFirst_178 : decode cX11_laysFirst 178 = .ok (.iconst 1, 1) := by decide +kernel
theorem dX11_laysFirst_179 : decode cX11_laysFirst 179 = .ok (.iadd, 1) := by decide +kernel
theorem dX11_laysFirst_180 : decode cX11_laysFirst 180 = .ok (.iaload, 1) := by decide +kernel
theorem dX11_laysFirst_181 : decode cX11_laysFirst 181 = .ok (.iadd, 1) := by decide +kernel
theorem dX11_laysFirst_182 : decode cX11_laysFirst 182 = .ok (.istore 10, 2) := by decide +kernel
theorem dX11_laysFirst_184 : decode cX11_laysFirst 184 = .ok (.aload_n 0, 1) := by decide +kernel
theorem dX11_laysFirst_185 : decode cX11_laysFirst 185 = .ok (.getfield 47, 3) := by decide +kernel
theorem dX11_laysFirst_188 : decode cX11_laysFirst 188 = .ok (.iload 10, 2) := by decide +kernel
theorem dX11_laysFirst_190 : decode cX11_laysFirst 190 = .ok (.iload 9, 2) := by decide +kernel
theorem dX11_laysFirst_192 : decode cX11_laysFirst 192 = .ok (.aload_n 0, 1) := by decide +kernel
theorem dX11_laysFirst_193 : decode cX11_laysFirst 193 = .ok (.getfield 47, 3) := by decide +kernel
theorem dX11_laysFirst_196 : decode cX11_laysFirst 196 = .ok (.iload 10, 2) := by decide +kernel
theorem dX11_laysFirst_198 : decode cX11_laysFirst 198 = .ok (.iaload, 1) := by decide +kernel
theorem dX11_laysFirst_199 : decode cX11_laysFirst 199 = .ok (.if_icmp .ge 8, 3) := by decide +kernel
theorem dX11_laysFirst_202 : decode cX11_laysFirst 202 = .ok (.iload 9, 2) := by decide +kernel
theorem dX11_laysFirst_204 : decode cX11_laysFirst 204 = .ok (.goto 10, 3) := by decide +kernel
theorem dX11_laysFirst_207 : decode cX11_laysFirst 207 = .ok (.aload_n 0, 1) := by decide +kernel
theorem dX11_laysFirst_208 : decode cX11_laysFirst 208 = .ok (.getfield 47, 3) := by decide +kernel
theorem dX11_laysFirst_211 : decode cX11_laysFirst 211 = .ok (.iload 10, 2) := by decide +kernel
theorem dX11_laysFirst_213 : decode cX11_laysFirst 213 = .ok (.iaload, 1) := by decide +kernel
theorem dX11_laysFirst_214 : decode cX11_laysFirst 214 = .ok (.iastore, 1) := by decide +kernel
theorem dX11_laysFirst_215 : decode cX11_laysFirst 215 = .ok (.iinc 7 1, 3) := by decide +kernel
theorem dX11_laysFirst_218 : decode cX11_laysFirst 218 = .ok (.goto (-124), 3) := by decide +kernel
theorem dX11_laysFirst_221 : decode cX11_laysFirst 221 = .ok (.iinc 6 1, 3) := by decide +kernel
theorem dX11_laysFirst_224 : decode cX11_laysFirst 224 = .ok (.goto (-185), 3) := by decide +kernel
theorem dX11_laysFirst_227 : decode cX11_laysFirst 227 = .ok (.return_, 1) := by decide +kernel
theorem dX11_leadsThere_0 : decode cX11_leadsThere 0 = .ok (.aload_n 0, 1) := by decide +kernel
theorem dX11_leadsThere_1 : decode cX11_leadsThere 1 = .ok (.iload_n 1, 1) := by decide +kernel
theorem dX11_leadsThere_2 : decode cX11_leadsThere 2 = .ok (.iload_n 2, 1) := by decide +kernel
theorem dX11_leadsThere_3 : decode cX11_leadsThere 3 = .ok (.iload_n 3, 1) := by decide +kernel
theorem dX11_leadsThere_4 : decode cX11_leadsThere 4 = .ok (.iload 4, 2) := by decide +kernel
theorem dX11_leadsThere_6 : decode cX11_leadsThere 6 = .ok (.bipush (-9), 2) := by decide +kernel
theorem dX11_leadsThere_8 : decode cX11_leadsThere 8 = .ok (.invokevirtual 154, 3) := by decide +kernel
theorem dX11_leadsThere_11 : decode cX11_leadsThere 11 = .ok (.aload_n 0, 1) := by decide +kernel
theorem dX11_leadsThere_12 : decode cX11_leadsThere 12 = .ok (.getfield 47, 3) := by decide +kernel
theorem dX11_leadsThere_15 : decode cX11_leadsThere 15 = .ok (.bipush 6, 2) := by decide +kernel
theorem dX11_leadsThere_17 : decode cX11_leadsThere 17 = .ok (.iload 4, 2) := by decide +kernel
theorem dX11_leadsThere_19 : decode cX11_leadsThere 19 = .ok (.imul, 1) := by decide +kernel
theorem dX11_leadsThere_20 : decode cX11_leadsThere 20 = .ok (.iload 5, 2) := by decide +kernel
theorem dX11_leadsThere_22 : decode cX11_leadsThere 22 = .ok (.iadd, 1) := by decide +kernel
theorem dX11_leadsThere_23 : decode cX11_leadsThere 23 = .ok (.iaload, 1) := by decide +kernel
theorem dX11_leadsThere_24 : decode cX11_leadsThere 24 = .ok (.iload 6, 2) := by decide +kernel
theorem dX11_leadsThere_26 : decode cX11_leadsThere 26 = .ok (.if_icmp .ne 7, 3) := by decide +kernel
theorem dX11_leadsThere_29 : decode cX11_leadsThere 29 = .ok (.iconst 1, 1) := by decide +kernel
theorem dX11_leadsThere_30 : decode cX11_leadsThere 30 = .ok (.goto 4, 3) := by decide +kernel
theorem dX11_leadsThere_33 : decode cX11_leadsThere 33 = .ok (.iconst 0, 1) := by decide +kernel
theorem dX11_leadsThere_34 : decode cX11_leadsThere 34 = .ok (.ireturn, 1) := by decide +kernel
theorem dX11_findsEnd_0 : decode cX11_findsEnd 0 = .ok (.aload_n 0, 1) := by decide +kernel
theorem dX11_findsEnd_1 : decode cX11_findsEnd 1 = .ok (.iload_n 1, 1) := by decide +kernel
theorem dX11_findsEnd_2 : decode cX11_findsEnd 2 = .ok (.iload_n 2, 1) := by decide +kernel
theorem dX11_findsEnd_3 : decode cX11_findsEnd 3 = .ok (.iload_n 3, 1) := by decide +kernel
theorem dX11_findsEnd_4 : decode cX11_findsEnd 4 = .ok (.iconst 5, 1) := by decide +kernel
theorem dX11_findsEnd_5 : decode cX11_findsEnd 5 = .ok (.iload 5, 2) := by decide +kernel
theorem dX11_findsEnd_7 : decode cX11_findsEnd 7 = .ok (.invokevirtual 154, 3) := by decide +kernel
theorem dX11_findsEnd_10 : decode cX11_findsEnd 10 = .ok (.aload_n 0, 1) := by decide +kernel
theorem dX11_findsEnd_11 : decode cX11_findsEnd 11 = .ok (.aload_n 0, 1) := by decide +kernel
theorem dX11_findsEnd_12 : decode cX11_findsEnd 12 = .ok (.getfield 47, 3) := by decide +kernel
theorem dX11_findsEnd_15 : decode cX11_findsEnd 15 = .ok (.bipush 30, 2) := by decide +kernel
theorem dX11_findsEnd_17 : decode cX11_findsEnd 17 = .ok (.iload 4, 2) := by decide +kernel
theorem dX11_findsEnd_19 : decode cX11_findsEnd 19 = .ok (.iadd, 1) := by decide +kernel
theorem dX11_findsEnd_20 : decode cX11_findsEnd 20 = .ok (.iaload, 1) := by decide +kernel
theorem dX11_findsEnd_21 : decode cX11_findsEnd 21 = .ok (.putfield 158, 3) := by decide +kernel
theorem dX11_findsEnd_24 : decode cX11_findsEnd 24 = .ok (.aload_n 0, 1) := by decide +kernel
theorem dX11_findsEnd_25 : decode cX11_findsEnd 25 = .ok (.iconst 5, 1) := by decide +kernel
theorem dX11_findsEnd_26 : decode cX11_findsEnd 26 = .ok (.putfield 161, 3) := by decide +kernel
theorem dX11_findsEnd_29 : decode cX11_findsEnd 29 = .ok (.aload_n 0, 1) := by decide +kernel
theorem dX11_findsEnd_30 : decode cX11_findsEnd 30 = .ok (.getfield 161, 3) := by decide +kernel
theorem dX11_findsEnd_33 : decode cX11_findsEnd 33 = .ok (.ifCond .le 41, 3) := by decide +kernel
theorem dX11_findsEnd_36 : decode cX11_findsEnd 36 = .ok (.aload_n 0, 1) := by decide +kernel
theorem dX11_findsEnd_37 : decode cX11_findsEnd 37 = .ok (.getfield 47, 3) := by decide +kernel
theorem dX11_findsEnd_40 : decode cX11_findsEnd 40 = .ok (.bipush 6, 2) := by decide +kernel
theorem dX11_findsEnd_42 : decode cX11_findsEnd 42 = .ok (.aload_n 0, 1) := by decide +kernel
theorem dX11_findsEnd_43 : decode cX11_findsEnd 43 = .ok (.getfield 161, 3) := by decide +kernel
theorem dX11_findsEnd_46 : decode cX11_findsEnd 46 = .ok (.imul, 1) := by decide +kernel
theorem dX11_findsEnd_47 : decode cX11_findsEnd 47 = .ok (.bipush 6, 2) := by decide +kernel
theorem dX11_findsEnd_49 : decode cX11_findsEnd 49 = .ok (.isub, 1) := by decide +kernel
theorem dX11_findsEnd_50 : decode cX11_findsEnd 50 = .ok (.iload 4, 2) := by decide +kernel
theorem dX11_findsEnd_52 : decode cX11_findsEnd 52 = .ok (.iadd, 1) := by decide +kernel
theorem dX11_findsEnd_53 : decode cX11_findsEnd 53 = .ok (.iaload, 1) := by decide +kernel
theorem dX11_findsEnd_54 : decode cX11_findsEnd 54 = .ok (.aload_n 0, 1) := by decide +kernel
theorem dX11_findsEnd_55 : decode cX11_findsEnd 55 = .ok (.getfield 158, 3) := by decide +kernel
theorem dX11_findsEnd_58 : decode cX11_findsEnd 58 = .ok (.if_icmp .ne 16, 3) := by decide +kernel
theorem dX11_findsEnd_61 : decode cX11_findsEnd 61 = .ok (.aload_n 0, 1) := by decide +kernel
theorem dX11_findsEnd_62 : decode cX11_findsEnd 62 = .ok (.dup, 1) := by decide +kernel
theorem dX11_findsEnd_63 : decode cX11_findsEnd 63 = .ok (.getfield 161, 3) := by decide +kernel
theorem dX11_findsEnd_66 : decode cX11_findsEnd 66 = .ok (.iconst 1, 1) := by decide +kernel
theorem dX11_findsEnd_67 : decode cX11_findsEnd 67 = .ok (.isub, 1) := by decide +kernel
theorem dX11_findsEnd_68 : decode cX11_findsEnd 68 = .ok (.putfield 161, 3) := by decide +kernel
theorem dX11_findsEnd_71 : decode cX11_findsEnd 71 = .ok (.goto (-42), 3) := by decide +kernel
theorem dX11_findsEnd_74 : decode cX11_findsEnd 74 = .ok (.aload_n 0, 1) := by decide +kernel
theorem dX11_findsEnd_75 : decode cX11_findsEnd 75 = .ok (.getfield 158, 3) := by decide +kernel
theorem dX11_findsEnd_78 : decode cX11_findsEnd 78 = .ok (.sipush 9999, 3) := by decide +kernel
theorem dX11_findsEnd_81 : decode cX11_findsEnd 81 = .ok (.if_icmp .ge 7, 3) := by decide +kernel
theorem dX11_findsEnd_84 : decode cX11_findsEnd 84 = .ok (.iconst 1, 1) := by decide +kernel
theorem dX11_findsEnd_85 : decode cX11_findsEnd 85 = .ok (.goto 4, 3) := by decide +kernel
theorem dX11_findsEnd_88 : decode cX11_findsEnd 88 = .ok (.iconst 0, 1) := by decide +kernel
theorem dX11_findsEnd_89 : decode cX11_findsEnd 89 = .ok (.ireturn, 1) := by decide +kernel
theorem dX11_findsWay_0 : decode cX11_findsWay 0 = .ok (.iload_n 2, 1) := by decide +kernel
theorem dX11_findsWay_1 : decode cX11_findsWay 1 = .ok (.istore 5, 2) := by decide +kernel
theorem dX11_findsWay_3 : decode cX11_findsWay 3 = .ok (.iload_n 3, 1) := by decide +kernel
theorem dX11_findsWay_4 : decode cX11_findsWay 4 = .ok (.istore 6, 2) := by decide +kernel
theorem dX11_findsWay_6 : decode cX11_findsWay 6 = .ok (.iconst 0, 1) := by decide +kernel
theorem dX11_findsWay_7 : decode cX11_findsWay 7 = .ok (.istore 7, 2) := by decide +kernel
theorem dX11_findsWay_9 : decode cX11_findsWay 9 = .ok (.iload 7, 2) := by decide +kernel
theorem dX11_findsWay_11 : decode cX11_findsWay 11 = .ok (.aload_n 0, 1) := by decide +kernel
theorem dX11_findsWay_12 : decode cX11_findsWay 12 = .ok (.getfield 161, 3) := by decide +kernel
theorem dX11_findsWay_15 : decode cX11_findsWay 15 = .ok (.if_icmp .ge 181, 3) := by decide +kernel
theorem dX11_findsWay_18 : decode cX11_findsWay 18 = .ok (.iconst 0, 1) := by decide +kernel
theorem dX11_findsWay_19 : decode cX11_findsWay 19 = .ok (.istore 8, 2) := by decide +kernel
theorem dX11_findsWay_21 : decode cX11_findsWay 21 = .ok (.iconst 0, 1) := by decide +kernel
theorem dX11_findsWay_22 : decode cX11_findsWay 22 = .ok (.istore 9, 2) := by decide +kernel
theorem dX11_findsWay_24 : decode cX11_findsWay 24 = .ok (.iload 9, 2) := by decide +kernel
theorem dX11_findsWay_26 : decode cX11_findsWay 26 = .ok (.ifCond .ne 114, 3) := by decide +kernel
theorem dX11_findsWay_29 : decode cX11_findsWay 29 = .ok (.aload_n 0, 1) := by decide +kernel
theorem dX11_findsWay_30 : decode cX11_findsWay 30 = .ok (.getfield 7, 3) := by decide +kernel
theorem dX11_findsWay_33 : decode cX11_findsWay 33 = .ok (.bipush 6, 2) := by decide +kernel
theorem dX11_findsWay_35 : decode cX11_findsWay 35 = .ok (.iload 8, 2) := by decide +kernel
theorem dX11_findsWay_37 : decode cX11_findsWay 37 = .ok (.imul, 1) := by decide +kernel
theorem dX11_findsWay_38 : decode cX11_findsWay 38 = .ok (.iaload, 1) := by decide +kernel
theorem dX11_findsWay_39 : decode cX11_findsWay 39 = .ok (.iload 5, 2) := by decide +kernel
theorem dX11_findsWay_41 : decode cX11_findsWay 41 = .ok (.if_icmp .ne 24, 3) := by decide +kernel
theorem dX11_findsWay_44 : decode cX11_findsWay 44 = .ok (.aload_n 0, 1) := by decide +kernel
theorem dX11_findsWay_45 : decode cX11_findsWay 45 = .ok (.iload 8, 2) := by decide +kernel
theorem dX11_findsWay_47 : decode cX11_findsWay 47 = .ok (.invokevirtual 120, 3) := by decide +kernel
theorem dX11_findsWay_50 : decode cX11_findsWay 50 = .ok (.ifCond .ne 15, 3) := by decide +kernel
theorem dX11_findsWay_53 : decode cX11_findsWay 53 = .ok (.aload_n 0, 1) := by decide +kernel
theorem dX11_findsWay_54 : decode cX11_findsWay 54 = .ok (.iload_n 1, 1) := by decide +kernel
theorem dX11_findsWay_55 : decode cX11_findsWay 55 = .ok (.iload 8, 2) := by decide +kernel
theorem dX11_findsWay_57 : decode cX11_findsWay 57 = .ok (.iload 6, 2) := by decide +kernel
theorem dX11_findsWay_59 : decode cX11_findsWay 59 = .ok (.invokevirtual 151, 3) := by decide +kernel
theorem dX11_findsWay_62 : decode cX11_findsWay 62 = .ok (.goto 6, 3) := by decide +kernel
theorem dX11_findsWay_65 : decode cX11_findsWay 65 = .ok (.sipush 9999, 3) := by decide +kernel
theorem dX11_findsWay_68 : decode cX11_findsWay 68 = .ok (.istore 10, 2) := by decide +kernel
theorem dX11_findsWay_70 : decode cX11_findsWay 70 = .ok (.iload 10, 2) := by decide +kernel
theorem dX11_findsWay_72 : decode cX11_findsWay 72 = .ok (.sipush 9999, 3) := by decide +kernel
theorem dX11_findsWay_75 : decode cX11_findsWay 75 = .ok (.if_icmp .ge 44, 3) := by decide +kernel
theorem dX11_findsWay_78 : decode cX11_findsWay 78 = .ok (.aload_n 0, 1) := by decide +kernel
theorem dX11_findsWay_79 : decode cX11_findsWay 79 = .ok (.iload_n 1, 1) := by decide +kernel
theorem dX11_findsWay_80 : decode cX11_findsWay 80 = .ok (.aload_n 0, 1) := by decide +kernel
theorem dX11_findsWay_81 : decode cX11_findsWay 81 = .ok (.getfield 7, 3) := by decide +kernel
theorem dX11_findsWay_84 : decode cX11_findsWay 84 = .ok (.bipush 6, 2) := by decide +kernel
theorem dX11_findsWay_86 : decode cX11_findsWay 86 = .ok (.iload 8, 2) := by decide +kernel
theorem dX11_findsWay_88 : decode cX11_findsWay 88 = .ok (.imul, 1) := by decide +kernel
theorem dX11_findsWay_89 : decode cX11_findsWay 89 = .ok (.iconst 1, 1) := by decide +kernel
theorem dX11_findsWay_90 : decode cX11_findsWay 90 = .ok (.iadd, 1) := by decide +kernel
theorem dX11_findsWay_91 : decode cX11_findsWay 91 = .ok (.iaload, 1) := by decide +kernel
theorem dX11_findsWay_92 : decode cX11_findsWay 92 = .ok (.iload 10, 2) := by decide +kernel
theorem dX11_findsWay_94 : decode cX11_findsWay 94 = .ok (.aload_n 0, 1) := by decide +kernel
theorem dX11_findsWay_95 : decode cX11_findsWay 95 = .ok (.getfield 161, 3) := by decide +kernel
theorem dX11_findsWay_98 : decode cX11_findsWay 98 = .ok (.iload 7, 2) := by decide +kernel
theorem dX11_findsWay_100 : decode cX11_findsWay 100 = .ok (.isub, 1) := by decide +kernel
theorem dX11_findsWay_101 : decode cX11_findsWay 101 = .ok (.iconst 1, 1) := by decide +kernel
theorem dX11_findsWay_102 : decode cX11_findsWay 102 = .ok (.isub, 1) := by decide +kernel
theorem dX11_findsWay_103 : decode cX11_findsWay 103 = .ok (.iload 4, 2) := by decide +kernel
theorem dX11_findsWay_105 : decode cX11_findsWay 105 = .ok (.aload_n 0, 1) := by decide +kernel
theorem dX11_findsWay_106 : decode cX11_findsWay 106 = .ok (.getfield 158, 3) := by decide +kernel
theorem dX11_findsWay_109 : decode cX11_findsWay 109 = .ok (.invokevirtual 164, 3) := by decide +kernel
theorem dX11_findsWay_112 : decode cX11_findsWay 112 = .ok (.ifCond .eq 7, 3) := by decide +kernel
theorem dX11_findsWay_115 : decode cX11_findsWay 115 = .ok (.iconst 1, 1) := by decide +kernel
theorem dX11_findsWay_116 : decode cX11_findsWay 116 = .ok (.goto 4, 3) := by decide +kernel
theorem dX11_findsWay_119 : decode cX11_findsWay 119 = .ok (.iconst 0, 1) := by decide +kernel
theorem dX11_findsWay_120 : decode cX11_findsWay 120 = .ok (.istore 9, 2) := by decide +kernel
theorem dX11_findsWay_122 : decode cX11_findsWay 122 = .ok (.iload 8, 2) := by decide +kernel
theorem dX11_findsWay_124 : decode cX11_findsWay 124 = .ok (.iload 9, 2) := by decide +kernel
theorem dX11_findsWay_126 : decode cX11_findsWay 126 = .ok (.ifCond .eq 7, 3) := by decide +kernel
theorem dX11_findsWay_129 : decode cX11_findsWay 129 = .ok (.iconst 0, 1) := by decide +kernel
theorem dX11_findsWay_130 : decode cX11_findsWay 130 = .ok (.goto 4, 3) := by decide +kernel
theorem dX11_findsWay_133 : decode cX11_findsWay 133 = .ok (.iconst 1, 1) := by decide +kernel
theorem dX11_findsWay_134 : decode cX11_findsWay 134 = .ok (.iadd, 1) := by decide +kernel
theorem dX11_findsWay_135 : decode cX11_findsWay 135 = .ok (.istore 8, 2) := by decide +kernel
theorem dX11_findsWay_137 : decode cX11_findsWay 137 = .ok (.goto (-113), 3) := by decide +kernel
theorem dX11_findsWay_140 : decode cX11_findsWay 140 = .ok (.aload_n 0, 1) := by decide +kernel
theorem dX11_findsWay_141 : decode cX11_findsWay 141 = .ok (.getfield 50, 3) := by decide +kernel
theorem dX11_findsWay_144 : decode cX11_findsWay 144 = .ok (.iload 7, 2) := by decide +kernel
theorem dX11_findsWay_146 : decode cX11_findsWay 146 = .ok (.iload 8, 2) := by decide +kernel
theorem dX11_findsWay_148 : decode cX11_findsWay 148 = .ok (.iastore, 1) := by decide +kernel
theorem dX11_findsWay_149 : decode cX11_findsWay 149 = .ok (.aload_n 0, 1) := by decide +kernel
theorem dX11_findsWay_150 : decode cX11_findsWay 150 = .ok (.getfield 53, 3) := by decide +kernel
theorem dX11_findsWay_153 : decode cX11_findsWay 153 = .ok (.iload 7, 2) := by decide +kernel
theorem dX11_findsWay_155 : decode cX11_findsWay 155 = .ok (.aload_n 0, 1) := by decide +kernel
theorem dX11_findsWay_156 : decode cX11_findsWay 156 = .ok (.iload_n 1, 1) := by decide +kernel
theorem dX11_findsWay_157 : decode cX11_findsWay 157 = .ok (.iload 8, 2) := by decide +kernel
theorem dX11_findsWay_159 : decode cX11_findsWay 159 = .ok (.iload 6, 2) := by decide +kernel
theorem dX11_findsWay_161 : decode cX11_findsWay 161 = .ok (.invokevirtual 147, 3) := by decide +kernel
theorem dX11_findsWay_164 : decode cX11_findsWay 164 = .ok (.iastore, 1) := by decide +kernel
theorem dX11_findsWay_165 : decode cX11_findsWay 165 = .ok (.aload_n 0, 1) := by decide +kernel
theorem dX11_findsWay_166 : decode cX11_findsWay 166 = .ok (.iload_n 1, 1) := by decide +kernel
theorem dX11_findsWay_167 : decode cX11_findsWay 167 = .ok (.iload 8, 2) := by decide +kernel
theorem dX11_findsWay_169 : decode cX11_findsWay 169 = .ok (.iload 6, 2) := by decide +kernel
theorem dX11_findsWay_171 : decode cX11_findsWay 171 = .ok (.invokevirtual 151, 3) := by decide +kernel
theorem dX11_findsWay_174 : decode cX11_findsWay 174 = .ok (.istore 6, 2) := by decide +kernel
theorem dX11_findsWay_176 : decode cX11_findsWay 176 = .ok (.aload_n 0, 1) := by decide +kernel
theorem dX11_findsWay_177 : decode cX11_findsWay 177 = .ok (.getfield 7, 3) := by decide +kernel
theorem dX11_findsWay_180 : decode cX11_findsWay 180 = .ok (.bipush 6, 2) := by decide +kernel
theorem dX11_findsWay_182 : decode cX11_findsWay 182 = .ok (.iload 8, 2) := by decide +kernel
theorem dX11_findsWay_184 : decode cX11_findsWay 184 = .ok (.imul, 1) := by decide +kernel
theorem dX11_findsWay_185 : decode cX11_findsWay 185 = .ok (.iconst 1, 1) := by decide +kernel
theorem dX11_findsWay_186 : decode cX11_findsWay 186 = .ok (.iadd, 1) := by decide +kernel
theorem dX11_findsWay_187 : decode cX11_findsWay 187 = .ok (.iaload, 1) := by decide +kernel
theorem dX11_findsWay_188 : decode cX11_findsWay 188 = .ok (.istore 5, 2) := by decide +kernel
theorem dX11_findsWay_190 : decode cX11_findsWay 190 = .ok (.iinc 7 1, 3) := by decide +kernel
theorem dX11_findsWay_193 : decode cX11_findsWay 193 = .ok (.goto (-184), 3) := by decide +kernel
theorem dX11_findsWay_196 : decode cX11_findsWay 196 = .ok (.return_, 1) := by decide +kernel
theorem dX11_has_0 : decode cX11_has 0 = .ok (.iload_n 0, 1) := by decide +kernel
theorem dX11_has_1 : decode cX11_has 1 = .ok (.iload_n 1, 1) := by decide +kernel
theorem dX11_has_2 : decode cX11_has 2 = .ok (.ishr, 1) := by decide +kernel
theorem dX11_has_3 : decode cX11_has 3 = .ok (.iconst 1, 1) := by decide +kernel
theorem dX11_has_4 : decode cX11_has 4 = .ok (.iand, 1) := by decide +kernel
theorem dX11_has_5 : decode cX11_has 5 = .ok (.iconst 1, 1) := by decide +kernel
theorem dX11_has_6 : decode cX11_has 6 = .ok (.if_icmp .ne 7, 3) := by decide +kernel
theorem dX11_has_9 : decode cX11_has 9 = .ok (.iconst 1, 1) := by decide +kernel
theorem dX11_has_10 : decode cX11_has 10 = .ok (.goto 4, 3) := by decide +kernel
theorem dX11_has_13 : decode cX11_has 13 = .ok (.iconst 0, 1) := by decide +kernel
theorem dX11_has_14 : decode cX11_has 14 = .ok (.ireturn, 1) := by decide +kernel
theorem dX11_givesUp_0 : decode cX11_givesUp 0 = .ok (.aload_n 0, 1) := by decide +kernel
theorem dX11_givesUp_1 : decode cX11_givesUp 1 = .ok (.getfield 16, 3) := by decide +kernel
theorem dX11_givesUp_4 : decode cX11_givesUp 4 = .ok (.iload_n 1, 1) := by decide +kernel
theorem dX11_givesUp_5 : decode cX11_givesUp 5 = .ok (.invokestatic 123, 3) := by decide +kernel
theorem dX11_givesUp_8 : decode cX11_givesUp 8 = .ok (.bipush 9, 2) := by decide +kernel
theorem dX11_givesUp_10 : decode cX11_givesUp 10 = .ok (.iadd, 1) := by decide +kernel
theorem dX11_givesUp_11 : decode cX11_givesUp 11 = .ok (.iconst 0, 1) := by decide +kernel
theorem dX11_givesUp_12 : decode cX11_givesUp 12 = .ok (.iastore, 1) := by decide +kernel
theorem dX11_givesUp_13 : decode cX11_givesUp 13 = .ok (.return_, 1) := by decide +kernel
theorem m_X11_in {G : GT} (hg : gx G = FX) {n : Nat} {μ : Mem} {Q : Int → Nat → Mem → Prop} {v0 v1 v2 : Int}  (h : ((v0 < v1 → (Q 0 n μ)) ∧ (¬ (v0 < v1) → ((v2 < v0 → (Q 0 n μ)) ∧ (¬ (v2 < v0) → (Q 1 n μ)))))) : CI G Y_X11_in [.inl v0, .inl v1, .inl v2] n μ Q := by
  refine e_I (by decide) (Nat.le_of_ble_eq_true rfl) ?_
  show Wa G Y_X11_in (ZI G Y_X11_in Q) 0 0 n μ 0 [(0, .inl v0), (1, .inl v1), (2, .inl v2)] []
  refine a_iload_n (k := 0) dX11_in_0 rfl rfl ?_
  refine a_iload_n (k := 1) dX11_in_1 rfl rfl ?_
  refine a_icmp_lt (tgt := 14) dX11_in_2 (by decide) (fun c1 => ?_) (fun c1 => ?_)
  · replace h := h.1 c1
    refine a_iconst dX11_in_14 (by decide) ?_
    exact a_zret dX11_in_15 rfl (Nat.le_of_ble_eq_true rfl) (Nat.le_of_ble_eq_true rfl) (by decide) h
  · replace h := h.2 c1
    refine a_iload_n (k := 0) dX11_in_5 rfl rfl ?_
    refine a_iload_n (k := 2) dX11_in_6 rfl rfl ?_
    refine a_icmp_gt (tgt := 14) dX11_in_7 (by decide) (fun c2 => ?_) (fun c2 => ?_)
    · replace h := h.1 c2
      refine a_iconst dX11_in_14 (by decide) ?_
      exact a_zret dX11_in_15 rfl (Nat.le_of_ble_eq_true rfl) (Nat.le_of_ble_eq_true rfl) (by decide) h
    · replace h := h.2 c2
      refine a_iconst dX11_in_10 (by decide) ?_
      refine a_goto (tgt := 15) dX11_in_11 (by decide) ?_
      exact a_zret dX11_in_15 rfl (Nat.le_of_ble_eq_true rfl) (Nat.le_of_ble_eq_true rfl) (by decide) h
theorem m_X11_isNode {G : GT} (hg : gx G = FX) {n : Nat} {μ : Mem} {Q : Int → Nat → Mem → Prop} {v1 : Int}  (h : ((inR ((μ 399 1) - 1)) ∧ (CI G Y_X11_in [.inl v1, .inl 0, .inl ((μ 399 1) - 1)] n μ (fun (x2 : Int) (n3 : Nat) (μ4 : Mem) => ((x2 = 0 ∨ x2 = 1) ∧ (Q x2 n3 μ4)))))) : CI G Y_X11_isNode [.inr 399, .inl v1] n μ Q := by
  refine e_I (by decide) (Nat.le_of_ble_eq_true rfl) ?_
  show Wa G Y_X11_isNode (ZI G Y_X11_isNode Q) 0 0 n μ 0 [(0, .inr 399), (1, .inl v1)] []
  refine a_iload_n (k := 1) dX11_isNode_0 rfl rfl ?_
  refine a_iconst dX11_isNode_1 (by decide) ?_
  refine a_aload_n (k := 0) dX11_isNode_2 rfl rfl ?_
  refine g_X11_66 rfl dX11_isNode_3 (St_ho hg St_399) ?_
  refine a_iconst dX11_isNode_6 (by decide) ?_
  obtain ⟨q1, h⟩ := h
  refine a_isub dX11_isNode_7 q1 ?_
  refine k_X11_69 rfl dX11_isNode_8 (Nat.le_of_ble_eq_true rfl) rfl (Nat.le_of_ble_eq_true rfl) (Nat.le_of_ble_eq_true rfl) h (fun x2 n3 μ4 h => ?_)
  obtain ⟨q5, h⟩ := h
  exact a_zret dX11_isNode_11 rfl (Nat.le_of_ble_eq_true rfl) (Nat.le_of_ble_eq_true rfl) q5 h
theorem m_X11_isContact {G : GT} (hg : gx G = FX) {n : Nat} {μ : Mem} {Q : Int → Nat → Mem → Prop} {v1 : Int}  (h : ((inR ((μ 399 2) - 1)) ∧ (CI G Y_X11_in [.inl v1, .inl 0, .inl ((μ 399 2) - 1)] n μ (fun (x2 : Int) (n3 : Nat) (μ4 : Mem) => ((x2 = 0 ∨ x2 = 1) ∧ (Q x2 n3 μ4)))))) : CI G Y_X11_isContact [.inr 399, .inl v1] n μ Q := by
  refine e_I (by decide) (Nat.le_of_ble_eq_true rfl) ?_
  show Wa G Y_X11_isContact (ZI G Y_X11_isContact Q) 0 0 n μ 0 [(0, .inr 399), (1, .inl v1)] []
  refine a_iload_n (k := 1) dX11_isContact_0 rfl rfl ?_
  refine a_iconst dX11_isContact_1 (by decide) ?_
  refine a_aload_n (k := 0) dX11_isContact_2 rfl rfl ?_
  refine g_X11_73 rfl dX11_isContact_3 (St_ho hg St_399) ?_
  refine a_iconst dX11_isContact_6 (by decide) ?_
  obtain ⟨q1, h⟩ := h
  refine a_isub dX11_isContact_7 q1 ?_
  refine k_X11_69 rfl dX11_isContact_8 (Nat.le_of_ble_eq_true rfl) rfl (Nat.le_of_ble_eq_true rfl) (Nat.le_of_ble_eq_true rfl) h (fun x2 n3 μ4 h => ?_)
  obtain ⟨q5, h⟩ := h
  exact a_zret dX11_isContact_11 rfl (Nat.le_of_ble_eq_true rfl) (Nat.le_of_ble_eq_true rfl) q5 h
theorem m_X11_isBundle {G : GT} (hg : gx G = FX) {n : Nat} {μ : Mem} {Q : Int → Nat → Mem → Prop} {v1 : Int}  (h : ((inR ((μ 402 2) - 1)) ∧ (CI G Y_X11_in [.inl v1, .inl 0, .inl ((μ 402 2) - 1)] n μ (fun (x2 : Int) (n3 : Nat) (μ4 : Mem) => ((x2 = 0 ∨ x2 = 1) ∧ (Q x2 n3 μ4)))))) : CI G Y_X11_isBundle [.inr 399, .inl v1] n μ Q := by
  refine e_I (by decide) (Nat.le_of_ble_eq_true rfl) ?_
  show Wa G Y_X11_isBundle (ZI G Y_X11_isBundle Q) 0 0 n μ 0 [(0, .inr 399), (1, .inl v1)] []
  refine a_iload_n (k := 1) dX11_isBundle_0 rfl rfl ?_
  refine a_iconst dX11_isBundle_1 (by decide) ?_
  refine a_aload_n (k := 0) dX11_isBundle_2 rfl rfl ?_
  refine gs_X11_16 rfl dX11_isBundle_3 hg St_399 ?_
  refine a_iconst dX11_isBundle_6 (by decide) ?_
  refine a_iaload dX11_isBundle_7 (St_ho hg St_402) (by decide) (by decide) ?_
  refine a_iconst dX11_isBundle_8 (by decide) ?_
  obtain ⟨q1, h⟩ := h
  refine a_isub dX11_isBundle_9 q1 ?_
  refine k_X11_69 rfl dX11_isBundle_10 (Nat.le_of_ble_eq_true rfl) rfl (Nat.le_of_ble_eq_true rfl) (Nat.le_of_ble_eq_true rfl) h (fun x2 n3 μ4 h => ?_)
  obtain ⟨q5, h⟩ := h
  exact a_zret dX11_isBundle_13 rfl (Nat.le_of_ble_eq_true rfl) (Nat.le_of_ble_eq_true rfl) q5 h
theorem m_X11_isMissed {G : GT} (hg : gx G = FX) {n : Nat} {μ : Mem} {Q : Int → Nat → Mem → Prop} {v1 : Int}  (h : ((¬ ((iAnd (iShr (μ 402 1) v1) 1) = 1) → (Q 0 n μ)) ∧ ((iAnd (iShr (μ 402 1) v1) 1) = 1 → (Q 1 n μ)))) : CI G Y_X11_isMissed [.inr 399, .inl v1] n μ Q := by
  refine e_I (by decide) (Nat.le_of_ble_eq_true rfl) ?_
  show Wa G Y_X11_isMissed (ZI G Y_X11_isMissed Q) 0 0 n μ 0 [(0, .inr 399), (1, .inl v1)] []
  refine a_aload_n (k := 0) dX11_isMissed_0 rfl rfl ?_
  refine gs_X11_16 rfl dX11_isMissed_1 hg St_399 ?_
  refine a_iconst dX11_isMissed_4 (by decide) ?_
  refine a_iaload dX11_isMissed_5 (St_ho hg St_402) (by decide) (by decide) ?_
  refine a_iload_n (k := 1) dX11_isMissed_6 rfl rfl ?_
  refine a_ishr dX11_isMissed_7 ?_
  refine a_iconst dX11_isMissed_8 (by decide) ?_
  refine a_iand dX11_isMissed_9 ?_
  refine a_iconst dX11_isMissed_10 (by decide) ?_
  refine a_icmp_ne (tgt := 18) dX11_isMissed_11 (by decide) (fun c1 => ?_) (fun c1 => ?_)
  · replace h := h.1 c1
    refine a_iconst dX11_isMissed_18 (by decide) ?_
    exact a_zret dX11_isMissed_19 rfl (Nat.le_of_ble_eq_true rfl) (Nat.le_of_ble_eq_true rfl) (by decide) h
  · replace h := h.2 c1
    refine a_iconst dX11_isMissed_14 (by decide) ?_
    refine a_goto (tgt := 19) dX11_isMissed_15 (by decide) ?_
    exact a_zret dX11_isMissed_19 rfl (Nat.le_of_ble_eq_true rfl) (Nat.le_of_ble_eq_true rfl) (by decide) h
theorem m_X11_type {G : GT} (hg : gx G = FX) {n : Nat} {μ : Mem} {Q : Int → Nat → Mem → Prop} {v1 : Int}  (h : (CI G Y_X11_in [.inl v1, .inl 0, .inl 255] n (up μ 399 0 0) (fun (x1 : Int) (n2 : Nat) (μ3 : Mem) => ((¬ (x1 = 0) → ((¬ ((μ3 399 17) = 150) → (((0 : Int) ≤ μ3 399 17 ∧ μ3 399 17 < 150) ∧ ((inR (((up μ3 410 (μ3 399 17) v1) 399 17) + 1)) ∧ (Q ((up (up μ3 410 (μ3 399 17) v1) 399 17 (((up μ3 410 (μ3 399 17) v1) 399 17) + 1)) 399 17) n2 (up (up μ3 410 (μ3 399 17) v1) 399 17 (((up μ3 410 (μ3 399 17) v1) 399 17) + 1)))))) ∧ ((μ3 399 17) = 150 → (Q (-3) n2 μ3)))) ∧ (x1 = 0 → (Q (-1) n2 μ3)))))) : CI G Y_X11_type [.inr 399, .inl v1] n μ Q := by
  refine e_I (by decide) (Nat.le_of_ble_eq_true rfl) ?_
  show Wa G Y_X11_type (ZI G Y_X11_type Q) 0 0 n μ 0 [(0, .inr 399), (1, .inl v1)] []
  refine a_aload_n (k := 0) dX11_type_0 rfl rfl ?_
  refine a_iconst dX11_type_1 (by decide) ?_
  refine p_X11_62 rfl dX11_type_2 (St_ho hg St_399) (FX_put hg St_399 rfl) ?_
  refine a_iload_n (k := 1) dX11_type_5 rfl rfl ?_
  refine a_iconst dX11_type_6 (by decide) ?_
  refine a_sipush dX11_type_7 (by decide) (by decide) ?_
  refine k_X11_69 rfl dX11_type_10 (Nat.le_of_ble_eq_true rfl) rfl (Nat.le_of_ble_eq_true rfl) (Nat.le_of_ble_eq_true rfl) h (fun x1 n2 μ3 h => ?_)
  refine a_if_ne (tgt := 18) dX11_type_13 (by decide) (fun c4 => ?_) (fun c4 => ?_)
  · replace h := h.1 c4
    refine a_aload_n (k := 0) dX11_type_18 rfl rfl ?_
    refine g_X11_76 rfl dX11_type_19 (St_ho hg St_399) ?_
    refine a_sipush dX11_type_22 (by decide) (by decide) ?_
    refine a_icmp_ne (tgt := 31) dX11_type_25 (by decide) (fun c5 => ?_) (fun c5 => ?_)
    · replace h := h.1 c5
      refine a_aload_n (k := 0) dX11_type_31 rfl rfl ?_
      refine gs_X11_41 rfl dX11_type_32 hg St_399 ?_
      refine a_aload_n (k := 0) dX11_type_35 rfl rfl ?_
      refine g_X11_76 rfl dX11_type_36 (St_ho hg St_399) ?_
      refine a_iload_n (k := 1) dX11_type_39 rfl rfl ?_
      obtain ⟨q6, h⟩ := h
      refine a_iastore dX11_type_40 (St_ho hg St_410) q6.1 q6.2 (FX_put hg St_410 rfl) ?_
      refine a_aload_n (k := 0) dX11_type_41 rfl rfl ?_
      refine a_dup dX11_type_42 ?_
      refine g_X11_76 rfl dX11_type_43 (St_ho hg St_399) ?_
      refine a_iconst dX11_type_46 (by decide) ?_
      obtain ⟨q7, h⟩ := h
      refine a_iadd dX11_type_47 q7 ?_
      refine p_X11_76 rfl dX11_type_48 (St_ho hg St_399) (FX_put hg St_399 rfl) ?_
      refine a_aload_n (k := 0) dX11_type_51 rfl rfl ?_
      refine g_X11_76 rfl dX11_type_52 (St_ho hg St_399) ?_
      exact a_iret dX11_type_55 rfl (Nat.le_of_ble_eq_true rfl) (Nat.le_of_ble_eq_true rfl) h
    · replace h := h.2 c5
      refine a_bipush dX11_type_28 (by decide) (by decide) ?_
      exact a_iret dX11_type_30 rfl (Nat.le_of_ble_eq_true rfl) (Nat.le_of_ble_eq_true rfl) h
  · replace h := h.2 c4
    refine a_iconst dX11_type_16 (by decide) ?_
    exact a_iret dX11_type_17 rfl (Nat.le_of_ble_eq_true rfl) (Nat.le_of_ble_eq_true rfl) h
theorem m_X11_clear {G : GT} (hg : gx G = FX) {n : Nat} {μ : Mem} {Q : Int → Nat → Mem → Prop}  (h : (Q ((up μ 399 0 0) 399 17) n (up (up μ 399 0 0) 399 17 0))) : CI G Y_X11_clear [.inr 399] n μ Q := by
  refine e_I (by decide) (Nat.le_of_ble_eq_true rfl) ?_
  show Wa G Y_X11_clear (ZI G Y_X11_clear Q) 0 0 n μ 0 [(0, .inr 399)] []
  refine a_aload_n (k := 0) dX11_clear_0 rfl rfl ?_
  refine a_iconst dX11_clear_1 (by decide) ?_
  refine p_X11_62 rfl dX11_clear_2 (St_ho hg St_399) (FX_put hg St_399 rfl) ?_
  refine a_aload_n (k := 0) dX11_clear_5 rfl rfl ?_
  refine g_X11_76 rfl dX11_clear_6 (St_ho hg St_399) ?_
  refine b_istore_n (L' := [(0, .inr 399), (1, .inl ((up μ 399 0 0) 399 17))]) [1, 0] dX11_clear_9 rfl (Nat.le_of_ble_eq_true rfl) rfl ?_
  refine a_aload_n (k := 0) dX11_clear_10 rfl rfl ?_
  refine a_iconst dX11_clear_11 (by decide) ?_
  refine p_X11_76 rfl dX11_clear_12 (St_ho hg St_399) (FX_put hg St_399 rfl) ?_
  refine a_iload_n (k := 1) dX11_clear_15 rfl rfl ?_
  exact a_iret dX11_clear_16 rfl (Nat.le_of_ble_eq_true rfl) (Nat.le_of_ble_eq_true rfl) h
theorem m_X11_isFigure {G : GT} (hg : gx G = FX) {n : Nat} {μ : Mem} {Q : Int → Nat → Mem → Prop} {v1 : Int}  (h : (((μ 399 17) ≤ v1 → (Q 0 n μ)) ∧ (¬ ((μ 399 17) ≤ v1) → (((0 : Int) ≤ v1 ∧ v1 < 150) ∧ (CI G Y_X11_in [.inl (μ 410 v1), .inl 48, .inl 57] n μ (fun (x3 : Int) (n4 : Nat) (μ5 : Mem) => ((x3 = 0 → (Q 0 n4 μ5)) ∧ (¬ (x3 = 0) → (Q 1 n4 μ5))))))))) : CI G Y_X11_isFigure [.inr 399, .inl v1] n μ Q := by
  refine e_I (by decide) (Nat.le_of_ble_eq_true rfl) ?_
  show Wa G Y_X11_isFigure (ZI G Y_X11_isFigure Q) 0 0 n μ 0 [(0, .inr 399), (1, .inl v1)] []
  refine a_iload_n (k := 1) dX11_isFigure_0 rfl rfl ?_
  refine a_aload_n (k := 0) dX11_isFigure_1 rfl rfl ?_
  refine g_X11_76 rfl dX11_isFigure_2 (St_ho hg St_399) ?_
  refine a_icmp_ge (tgt := 28) dX11_isFigure_5 (by decide) (fun c1 => ?_) (fun c1 => ?_)
  · replace h := h.1 c1
    refine a_iconst dX11_isFigure_28 (by decide) ?_
    exact a_zret dX11_isFigure_29 rfl (Nat.le_of_ble_eq_true rfl) (Nat.le_of_ble_eq_true rfl) (by decide) h
  · replace h := h.2 c1
    refine a_aload_n (k := 0) dX11_isFigure_8 rfl rfl ?_
    refine gs_X11_41 rfl dX11_isFigure_9 hg St_399 ?_
    refine a_iload_n (k := 1) dX11_isFigure_12 rfl rfl ?_
    obtain ⟨q2, h⟩ := h
    refine a_iaload dX11_isFigure_13 (St_ho hg St_410) q2.1 q2.2 ?_
    refine a_bipush dX11_isFigure_14 (by decide) (by decide) ?_
    refine a_bipush dX11_isFigure_16 (by decide) (by decide) ?_
    refine k_X11_69 rfl dX11_isFigure_18 (Nat.le_of_ble_eq_true rfl) rfl (Nat.le_of_ble_eq_true rfl) (Nat.le_of_ble_eq_true rfl) h (fun x3 n4 μ5 h => ?_)
    refine a_if_eq (tgt := 28) dX11_isFigure_21 (by decide) (fun c6 => ?_) (fun c6 => ?_)
    · replace h := h.1 c6
      refine a_iconst dX11_isFigure_28 (by decide) ?_
      exact a_zret dX11_isFigure_29 rfl (Nat.le_of_ble_eq_true rfl) (Nat.le_of_ble_eq_true rfl) (by decide) h
    · replace h := h.2 c6
      refine a_iconst dX11_isFigure_24 (by decide) ?_
      refine a_goto (tgt := 29) dX11_isFigure_25 (by decide) ?_
      exact a_zret dX11_isFigure_29 rfl (Nat.le_of_ble_eq_true rfl) (Nat.le_of_ble_eq_true rfl) (by decide) h
abbrev B_X11_takes_0 (G : GT) (Q : Nat → Mem → Prop) (n : Nat) (μ : Mem) : Prop := Wa G Y_X11_takes (ZV G Y_X11_takes Q) 0 0 n μ 0 [(0, .inr 399)] []
abbrev B_X11_takes_38 (G : GT) (Q : Nat → Mem → Prop) (n : Nat) (μ : Mem) : Prop := Wa G Y_X11_takes (ZV G Y_X11_takes Q) 0 0 n μ 38 [(0, .inr 399)] []
abbrev B_X11_takes_71 (G : GT) (Q : Nat → Mem → Prop) (n : Nat) (μ : Mem) (u0 : Int) (u1 : Int) : Prop := Wa G Y_X11_takes (ZV G Y_X11_takes Q) 0 0 n μ 71 [(0, .inr 399)] [.inl u0, .inr u1]
abbrev B_X11_takes_113 (G : GT) (Q : Nat → Mem → Prop) (n : Nat) (μ : Mem) (v1 : Int) : Prop := Wa G Y_X11_takes (ZV G Y_X11_takes Q) 0 0 n μ 113 [(0, .inr 399), (1, .inl v1)] []
abbrev B_X11_takes_151 (G : GT) (Q : Nat → Mem → Prop) (n : Nat) (μ : Mem) (u0 : Int) : Prop := Wa G Y_X11_takes (ZV G Y_X11_takes Q) 0 0 n μ 151 [(0, .inr 399)] [.inl u0]
abbrev B_X11_takes_199 (G : GT) (Q : Nat → Mem → Prop) (n : Nat) (μ : Mem) (u0 : Int) : Prop := Wa G Y_X11_takes (ZV G Y_X11_takes Q) 0 0 n μ 199 [] [.inr u0]
theorem b_X11_takes_0 {G : GT} (hg : gx G = FX) {n : Nat} {μ : Mem} {Q : Nat → Mem → Prop}  (h : (((μ 399 17) ≤ (μ 399 19) → (B_X11_takes_38 G Q n μ)) ∧ (¬ ((μ 399 17) ≤ (μ 399 19)) → (((0 : Int) ≤ μ 399 19 ∧ μ 399 19 < 150) ∧ ((¬ ((μ 410 (μ 399 19)) = 32) → (B_X11_takes_38 G Q n μ)) ∧ ((μ 410 (μ 399 19)) = 32 → ((inR ((μ 399 19) + 1)) ∧ (B_X11_takes_0 G Q n (up μ 399 19 ((μ 399 19) + 1)))))))))) : B_X11_takes_0 G Q n μ := by
  show Wa G Y_X11_takes (ZV G Y_X11_takes Q) 0 0 n μ 0 [(0, .inr 399)] []
  refine a_aload_n (k := 0) dX11_takes_0 rfl rfl ?_
  refine g_X11_79 rfl dX11_takes_1 (St_ho hg St_399) ?_
  refine a_aload_n (k := 0) dX11_takes_4 rfl rfl ?_
  refine g_X11_76 rfl dX11_takes_5 (St_ho hg St_399) ?_
  refine a_icmp_ge (tgt := 38) dX11_takes_8 (by decide) (fun c1 => ?_) (fun c1 => ?_)
  · replace h := h.1 c1
    exact h
  · replace h := h.2 c1
    refine a_aload_n (k := 0) dX11_takes_11 rfl rfl ?_
    refine gs_X11_41 rfl dX11_takes_12 hg St_399 ?_
    refine a_aload_n (k := 0) dX11_takes_15 rfl rfl ?_
    refine g_X11_79 rfl dX11_takes_16 (St_ho hg St_399) ?_
    obtain ⟨q2, h⟩ := h
    refine a_iaload dX11_takes_19 (St_ho hg St_410) q2.1 q2.2 ?_
    refine a_bipush dX11_takes_20 (by decide) (by decide) ?_
    refine a_icmp_ne (tgt := 38) dX11_takes_22 (by decide) (fun c3 => ?_) (fun c3 => ?_)
    · replace h := h.1 c3
      exact h
    · replace h := h.2 c3
      refine a_aload_n (k := 0) dX11_takes_25 rfl rfl ?_
      refine a_dup dX11_takes_26 ?_
      refine g_X11_79 rfl dX11_takes_27 (St_ho hg St_399) ?_
      refine a_iconst dX11_takes_30 (by decide) ?_
      obtain ⟨q4, h⟩ := h
      refine a_iadd dX11_takes_31 q4 ?_
      refine p_X11_79 rfl dX11_takes_32 (St_ho hg St_399) (FX_put hg St_399 rfl) ?_
      refine a_goto (tgt := 0) dX11_takes_35 (by decide) ?_
      exact h
theorem m_X11_takes {G : GT} (hg : gx G = FX) {n : Nat} {μ : Mem} {Q : Nat → Mem → Prop}  (h : B_X11_takes_0 G Q n μ) : CV G Y_X11_takes [.inr 399] n μ Q := e_V (by decide) (Nat.le_of_ble_eq_true rfl) h
theorem b_X11_takes_38 {G : GT} (hg : gx G = FX) {n : Nat} {μ : Mem} {Q : Nat → Mem → Prop}  (h : ((((up μ 399 20 (μ 399 19)) 399 17) ≤ ((up μ 399 20 (μ 399 19)) 399 19) → (B_X11_takes_71 G Q n (up μ 399 20 (μ 399 19)) (-1) 399)) ∧ (¬ (((up μ 399 20 (μ 399 19)) 399 17) ≤ ((up μ 399 20 (μ 399 19)) 399 19)) → (((0 : Int) ≤ (up μ 399 20 (μ 399 19)) 399 19 ∧ (up μ 399 20 (μ 399 19)) 399 19 < 150) ∧ (B_X11_takes_71 G Q n (up μ 399 20 (μ 399 19)) ((up μ 399 20 (μ 399 19)) 410 ((up μ 399 20 (μ 399 19)) 399 19)) 399))))) : B_X11_takes_38 G Q n μ := by
  show Wa G Y_X11_takes (ZV G Y_X11_takes Q) 0 0 n μ 38 [(0, .inr 399)] []
  refine a_aload_n (k := 0) dX11_takes_38 rfl rfl ?_
  refine a_aload_n (k := 0) dX11_takes_39 rfl rfl ?_
  refine g_X11_79 rfl dX11_takes_40 (St_ho hg St_399) ?_
  refine p_X11_82 rfl dX11_takes_43 (St_ho hg St_399) (FX_put hg St_399 rfl) ?_
  refine a_aload_n (k := 0) dX11_takes_46 rfl rfl ?_
  refine a_aload_n (k := 0) dX11_takes_47 rfl rfl ?_
  refine g_X11_79 rfl dX11_takes_48 (St_ho hg St_399) ?_
  refine a_aload_n (k := 0) dX11_takes_51 rfl rfl ?_
  refine g_X11_76 rfl dX11_takes_52 (St_ho hg St_399) ?_
  refine a_icmp_ge (tgt := 70) dX11_takes_55 (by decide) (fun c1 => ?_) (fun c1 => ?_)
  · replace h := h.1 c1
    refine a_iconst dX11_takes_70 (by decide) ?_
    exact h
  · replace h := h.2 c1
    refine a_aload_n (k := 0) dX11_takes_58 rfl rfl ?_
    refine gs_X11_41 rfl dX11_takes_59 hg St_399 ?_
    refine a_aload_n (k := 0) dX11_takes_62 rfl rfl ?_
    refine g_X11_79 rfl dX11_takes_63 (St_ho hg St_399) ?_
    obtain ⟨q2, h⟩ := h
    refine a_iaload dX11_takes_66 (St_ho hg St_410) q2.1 q2.2 ?_
    refine a_goto (tgt := 71) dX11_takes_67 (by decide) ?_
    exact h
theorem b_X11_takes_71 {G : GT} (hg : gx G = FX) {n : Nat} {μ : Mem} {Q : Nat → Mem → Prop} {u0 u1 : Int} (ou1 : St u1 11 28) (h : (CI G Y_X11_isFigure [.inr 399, .inl ((up μ u1 21 u0) 399 19)] n (up μ u1 21 u0) (fun (x1 : Int) (n2 : Nat) (μ3 : Mem) => ((¬ (x1 = 0) → (B_X11_takes_113 G Q n2 μ3 0)) ∧ (x1 = 0 → (((μ3 399 17) ≤ (μ3 399 19) → ((inR ((μ3 399 19) + 0)) ∧ (Q n2 (up μ3 399 19 ((μ3 399 19) + 0))))) ∧ (¬ ((μ3 399 17) ≤ (μ3 399 19)) → ((inR ((μ3 399 19) + 1)) ∧ (Q n2 (up μ3 399 19 ((μ3 399 19) + 1))))))))))) : B_X11_takes_71 G Q n μ u0 u1 := by
  show Wa G Y_X11_takes (ZV G Y_X11_takes Q) 0 0 n μ 71 [(0, .inr 399)] [.inl u0, .inr u1]
  refine p_X11_85 rfl dX11_takes_71 (St_ho hg ou1) (FX_put hg ou1 rfl) ?_
  refine a_aload_n (k := 0) dX11_takes_74 rfl rfl ?_
  refine a_aload_n (k := 0) dX11_takes_75 rfl rfl ?_
  refine g_X11_79 rfl dX11_takes_76 (St_ho hg St_399) ?_
  refine k_X11_88 rfl dX11_takes_79 (Nat.le_of_ble_eq_true rfl) rfl (Nat.le_of_ble_eq_true rfl) (Nat.le_of_ble_eq_true rfl) (St_ho hg St_399) h (fun x1 n2 μ3 h => ?_)
  refine a_if_ne (tgt := 111) dX11_takes_82 (by decide) (fun c4 => ?_) (fun c4 => ?_)
  · replace h := h.1 c4
    refine a_iconst dX11_takes_111 (by decide) ?_
    refine b_istore_n (L' := [(0, .inr 399), (1, .inl 0)]) [1, 0] dX11_takes_112 rfl (Nat.le_of_ble_eq_true rfl) rfl ?_
    exact h
  · replace h := h.2 c4
    refine a_aload_n (k := 0) dX11_takes_85 rfl rfl ?_
    refine a_dup dX11_takes_86 ?_
    refine g_X11_79 rfl dX11_takes_87 (St_ho hg St_399) ?_
    refine a_aload_n (k := 0) dX11_takes_90 rfl rfl ?_
    refine g_X11_79 rfl dX11_takes_91 (St_ho hg St_399) ?_
    refine a_aload_n (k := 0) dX11_takes_94 rfl rfl ?_
    refine g_X11_76 rfl dX11_takes_95 (St_ho hg St_399) ?_
    refine a_icmp_ge (tgt := 105) dX11_takes_98 (by decide) (fun c5 => ?_) (fun c5 => ?_)
    · replace h := h.1 c5
      refine a_iconst dX11_takes_105 (by decide) ?_
      obtain ⟨q6, h⟩ := h
      refine a_iadd dX11_takes_106 q6 ?_
      refine p_X11_79 rfl dX11_takes_107 (St_ho hg St_399) (FX_put hg St_399 rfl) ?_
      exact a_ret dX11_takes_110 rfl (Nat.le_of_ble_eq_true rfl) (Nat.le_of_ble_eq_true rfl) h
    · replace h := h.2 c5
      refine a_iconst dX11_takes_101 (by decide) ?_
      refine a_goto (tgt := 106) dX11_takes_102 (by decide) ?_
      obtain ⟨q7, h⟩ := h
      refine a_iadd dX11_takes_106 q7 ?_
      refine p_X11_79 rfl dX11_takes_107 (St_ho hg St_399) (FX_put hg St_399 rfl) ?_
      exact a_ret dX11_takes_110 rfl (Nat.le_of_ble_eq_true rfl) (Nat.le_of_ble_eq_true rfl) h
theorem b_X11_takes_113 {G : GT} (hg : gx G = FX) {n : Nat} {μ : Mem} {Q : Nat → Mem → Prop} {v1 : Int}  (h : (CI G Y_X11_isFigure [.inr 399, .inl (μ 399 19)] n μ (fun (x1 : Int) (n2 : Nat) (μ3 : Mem) => ((x1 = 0 → ((99 < v1 → (B_X11_takes_199 G Q n2 μ3 399)) ∧ (¬ (99 < v1) → (((0 : Int) ≤ μ3 399 20 ∧ μ3 399 20 < 150) ∧ ((¬ ((μ3 410 (μ3 399 20)) = 48) → ((inR (1000 + v1)) ∧ (Q n2 (up μ3 399 21 (1000 + v1))))) ∧ ((μ3 410 (μ3 399 20)) = 48 → ((inR ((μ3 399 20) + 1)) ∧ (((μ3 399 19) ≤ ((μ3 399 20) + 1) → ((inR (1000 + v1)) ∧ (Q n2 (up μ3 399 21 (1000 + v1))))) ∧ (¬ ((μ3 399 19) ≤ ((μ3 399 20) + 1)) → (B_X11_takes_199 G Q n2 μ3 399)))))))))) ∧ (¬ (x1 = 0) → ((v1 ≤ 99 → ((inR (10 * v1)) ∧ (((0 : Int) ≤ μ3 399 19 ∧ μ3 399 19 < 150) ∧ ((inR ((10 * v1) + (μ3 410 (μ3 399 19)))) ∧ ((inR (((10 * v1) + (μ3 410 (μ3 399 19))) - 48)) ∧ (B_X11_takes_151 G Q n2 μ3 (((10 * v1) + (μ3 410 (μ3 399 19))) - 48))))))) ∧ (¬ (v1 ≤ 99) → (B_X11_takes_151 G Q n2 μ3 v1)))))))) : B_X11_takes_113 G Q n μ v1 := by
  show Wa G Y_X11_takes (ZV G Y_X11_takes Q) 0 0 n μ 113 [(0, .inr 399), (1, .inl v1)] []
  refine a_aload_n (k := 0) dX11_takes_113 rfl rfl ?_
  refine a_aload_n (k := 0) dX11_takes_114 rfl rfl ?_
  refine g_X11_79 rfl dX11_takes_115 (St_ho hg St_399) ?_
  refine k_X11_88 rfl dX11_takes_118 (Nat.le_of_ble_eq_true rfl) rfl (Nat.le_of_ble_eq_true rfl) (Nat.le_of_ble_eq_true rfl) (St_ho hg St_399) h (fun x1 n2 μ3 h => ?_)
  refine a_if_eq (tgt := 165) dX11_takes_121 (by decide) (fun c4 => ?_) (fun c4 => ?_)
  · replace h := h.1 c4
    refine a_aload_n (k := 0) dX11_takes_165 rfl rfl ?_
    refine a_iload_n (k := 1) dX11_takes_166 rfl rfl ?_
    refine a_bipush dX11_takes_167 (by decide) (by decide) ?_
    refine a_icmp_gt (tgt := 199) dX11_takes_169 (by decide) (fun c5 => ?_) (fun c5 => ?_)
    · replace h := h.1 c5
      refine a_sub [] rfl ?_
      exact h
    · replace h := h.2 c5
      refine a_aload_n (k := 0) dX11_takes_172 rfl rfl ?_
      refine gs_X11_41 rfl dX11_takes_173 hg St_399 ?_
      refine a_aload_n (k := 0) dX11_takes_176 rfl rfl ?_
      refine g_X11_82 rfl dX11_takes_177 (St_ho hg St_399) ?_
      obtain ⟨q6, h⟩ := h
      refine a_iaload dX11_takes_180 (St_ho hg St_410) q6.1 q6.2 ?_
      refine a_bipush dX11_takes_181 (by decide) (by decide) ?_
      refine a_icmp_ne (tgt := 205) dX11_takes_183 (by decide) (fun c7 => ?_) (fun c7 => ?_)
      · replace h := h.1 c7
        refine a_sipush dX11_takes_205 (by decide) (by decide) ?_
        refine a_iload_n (k := 1) dX11_takes_208 rfl rfl ?_
        obtain ⟨q8, h⟩ := h
        refine a_iadd dX11_takes_209 q8 ?_
        refine p_X11_85 rfl dX11_takes_210 (St_ho hg St_399) (FX_put hg St_399 rfl) ?_
        exact a_ret dX11_takes_213 rfl (Nat.le_of_ble_eq_true rfl) (Nat.le_of_ble_eq_true rfl) h
      · replace h := h.2 c7
        refine a_aload_n (k := 0) dX11_takes_186 rfl rfl ?_
        refine g_X11_79 rfl dX11_takes_187 (St_ho hg St_399) ?_
        refine a_aload_n (k := 0) dX11_takes_190 rfl rfl ?_
        refine g_X11_82 rfl dX11_takes_191 (St_ho hg St_399) ?_
        refine a_iconst dX11_takes_194 (by decide) ?_
        obtain ⟨q9, h⟩ := h
        refine a_iadd dX11_takes_195 q9 ?_
        refine a_icmp_le (tgt := 205) dX11_takes_196 (by decide) (fun c10 => ?_) (fun c10 => ?_)
        · replace h := h.1 c10
          refine a_sipush dX11_takes_205 (by decide) (by decide) ?_
          refine a_iload_n (k := 1) dX11_takes_208 rfl rfl ?_
          obtain ⟨q11, h⟩ := h
          refine a_iadd dX11_takes_209 q11 ?_
          refine p_X11_85 rfl dX11_takes_210 (St_ho hg St_399) (FX_put hg St_399 rfl) ?_
          exact a_ret dX11_takes_213 rfl (Nat.le_of_ble_eq_true rfl) (Nat.le_of_ble_eq_true rfl) h
        · replace h := h.2 c10
          refine a_sub [] rfl ?_
          exact h
  · replace h := h.2 c4
    refine a_iload_n (k := 1) dX11_takes_124 rfl rfl ?_
    refine a_bipush dX11_takes_125 (by decide) (by decide) ?_
    refine a_icmp_le (tgt := 134) dX11_takes_127 (by decide) (fun c12 => ?_) (fun c12 => ?_)
    · replace h := h.1 c12
      refine a_bipush dX11_takes_134 (by decide) (by decide) ?_
      refine a_iload_n (k := 1) dX11_takes_136 rfl rfl ?_
      obtain ⟨q13, h⟩ := h
      refine a_imul dX11_takes_137 q13 ?_
      refine a_aload_n (k := 0) dX11_takes_138 rfl rfl ?_
      refine gs_X11_41 rfl dX11_takes_139 hg St_399 ?_
      refine a_aload_n (k := 0) dX11_takes_142 rfl rfl ?_
      refine g_X11_79 rfl dX11_takes_143 (St_ho hg St_399) ?_
      obtain ⟨q14, h⟩ := h
      refine a_iaload dX11_takes_146 (St_ho hg St_410) q14.1 q14.2 ?_
      obtain ⟨q15, h⟩ := h
      refine a_iadd dX11_takes_147 q15 ?_
      refine a_bipush dX11_takes_148 (by decide) (by decide) ?_
      obtain ⟨q16, h⟩ := h
      refine a_isub dX11_takes_150 q16 ?_
      refine a_sub [0] rfl ?_
      exact h
    · replace h := h.2 c12
      refine a_iload_n (k := 1) dX11_takes_130 rfl rfl ?_
      refine a_goto (tgt := 151) dX11_takes_131 (by decide) ?_
      refine a_sub [0] rfl ?_
      exact h
theorem b_X11_takes_151 {G : GT} (hg : gx G = FX) {n : Nat} {μ : Mem} {Q : Nat → Mem → Prop} {u0 : Int}  (h : ((inR ((μ 399 19) + 1)) ∧ (B_X11_takes_113 G Q n (up μ 399 19 ((μ 399 19) + 1)) u0))) : B_X11_takes_151 G Q n μ u0 := by
  show Wa G Y_X11_takes (ZV G Y_X11_takes Q) 0 0 n μ 151 [(0, .inr 399)] [.inl u0]
  refine b_istore_n (L' := [(0, .inr 399), (1, .inl u0)]) [1, 0] dX11_takes_151 rfl (Nat.le_of_ble_eq_true rfl) rfl ?_
  refine a_aload_n (k := 0) dX11_takes_152 rfl rfl ?_
  refine a_dup dX11_takes_153 ?_
  refine g_X11_79 rfl dX11_takes_154 (St_ho hg St_399) ?_
  refine a_iconst dX11_takes_157 (by decide) ?_
  obtain ⟨q1, h⟩ := h
  refine a_iadd dX11_takes_158 q1 ?_
  refine p_X11_79 rfl dX11_takes_159 (St_ho hg St_399) (FX_put hg St_399 rfl) ?_
  refine a_goto (tgt := 113) dX11_takes_162 (by decide) ?_
  exact h
theorem b_X11_takes_199 {G : GT} (hg : gx G = FX) {n : Nat} {μ : Mem} {Q : Nat → Mem → Prop} {u0 : Int} (ou0 : St u0 11 28) (h : (Q n (up μ u0 21 2000))) : B_X11_takes_199 G Q n μ u0 := by
  show Wa G Y_X11_takes (ZV G Y_X11_takes Q) 0 0 n μ 199 [] [.inr u0]
  refine a_sipush dX11_takes_199 (by decide) (by decide) ?_
  refine a_goto (tgt := 210) dX11_takes_202 (by decide) ?_
  refine p_X11_85 rfl dX11_takes_210 (St_ho hg ou0) (FX_put hg ou0 rfl) ?_
  exact a_ret dX11_takes_213 rfl (Nat.le_of_ble_eq_true rfl) (Nat.le_of_ble_eq_true rfl) h
theorem m_X11_reads {G : GT} (hg : gx G = FX) {n : Nat} {μ : Mem} {Q : Int → Nat → Mem → Prop} {v1 v2 v3 : Int}  (h : (CV G Y_X11_takes [.inr 399] n μ (fun (n2 : Nat) (μ3 : Mem) => ((inR (6 * (μ3 399 5))) ∧ ((inR ((6 * (μ3 399 5)) + v1)) ∧ ((inR ((μ3 399 21) - 1000)) ∧ (((0 : Int) ≤ (6 * (μ3 399 5)) + v1 ∧ (6 * (μ3 399 5)) + v1 < 48) ∧ ((inR (1000 + v2)) ∧ ((inR (1000 + v3)) ∧ (CI G Y_X11_in [.inl ((up μ3 401 ((6 * (μ3 399 5)) + v1) ((μ3 399 21) - 1000)) 399 21), .inl (1000 + v2), .inl (1000 + v3)] n2 (up μ3 401 ((6 * (μ3 399 5)) + v1) ((μ3 399 21) - 1000)) (fun (x10 : Int) (n11 : Nat) (μ12 : Mem) => ((x10 = 0 ∨ x10 = 1) ∧ (Q x10 n11 μ12))))))))))))) : CI G Y_X11_reads [.inr 399, .inl v1, .inl v2, .inl v3] n μ Q := by
  refine e_I (by decide) (Nat.le_of_ble_eq_true rfl) ?_
  show Wa G Y_X11_reads (ZI G Y_X11_reads Q) 0 0 n μ 0 [(0, .inr 399), (1, .inl v1), (2, .inl v2), (3, .inl v3)] []
  refine a_aload_n (k := 0) dX11_reads_0 rfl rfl ?_
  refine k_X11_92 rfl dX11_reads_1 (Nat.le_of_ble_eq_true rfl) rfl (Nat.le_of_ble_eq_true rfl) (Nat.le_of_ble_eq_true rfl) (St_ho hg St_399) h (fun n2 μ3 h => ?_)
  refine a_aload_n (k := 0) dX11_reads_4 rfl rfl ?_
  refine gs_X11_13 rfl dX11_reads_5 hg St_399 ?_
  refine a_bipush dX11_reads_8 (by decide) (by decide) ?_
  refine a_aload_n (k := 0) dX11_reads_10 rfl rfl ?_
  refine g_X11_95 rfl dX11_reads_11 (St_ho hg St_399) ?_
  obtain ⟨q4, h⟩ := h
  refine a_imul dX11_reads_14 q4 ?_
  refine a_iload_n (k := 1) dX11_reads_15 rfl rfl ?_
  obtain ⟨q5, h⟩ := h
  refine a_iadd dX11_reads_16 q5 ?_
  refine a_aload_n (k := 0) dX11_reads_17 rfl rfl ?_
  refine g_X11_85 rfl dX11_reads_18 (St_ho hg St_399) ?_
  refine a_sipush dX11_reads_21 (by decide) (by decide) ?_
  obtain ⟨q6, h⟩ := h
  refine a_isub dX11_reads_24 q6 ?_
  obtain ⟨q7, h⟩ := h
  refine a_iastore dX11_reads_25 (St_ho hg St_401) q7.1 q7.2 (FX_put hg St_401 rfl) ?_
  refine a_aload_n (k := 0) dX11_reads_26 rfl rfl ?_
  refine g_X11_85 rfl dX11_reads_27 (St_ho hg St_399) ?_
  refine a_sipush dX11_reads_30 (by decide) (by decide) ?_
  refine a_iload_n (k := 2) dX11_reads_33 rfl rfl ?_
  obtain ⟨q8, h⟩ := h
  refine a_iadd dX11_reads_34 q8 ?_
  refine a_sipush dX11_reads_35 (by decide) (by decide) ?_
  refine a_iload_n (k := 3) dX11_reads_38 rfl rfl ?_
  obtain ⟨q9, h⟩ := h
  refine a_iadd dX11_reads_39 q9 ?_
  refine k_X11_69 rfl dX11_reads_40 (Nat.le_of_ble_eq_true rfl) rfl (Nat.le_of_ble_eq_true rfl) (Nat.le_of_ble_eq_true rfl) h (fun x10 n11 μ12 h => ?_)
  obtain ⟨q13, h⟩ := h
  exact a_zret dX11_reads_43 rfl (Nat.le_of_ble_eq_true rfl) (Nat.le_of_ble_eq_true rfl) q13 h
theorem m_X11_readsContact {G : GT} (hg : gx G = FX) {n : Nat} {μ : Mem} {Q : Int → Nat → Mem → Prop}  (h : ((¬ ((μ 399 5) = 8) → ((inR (6 * (μ 399 5))) ∧ ((inR ((μ 399 4) - 1)) ∧ (CI G Y_X11_reads [.inr 399, .inl 0, .inl 0, .inl ((μ 399 4) - 1)] n μ (fun (x4 : Int) (n5 : Nat) (μ6 : Mem) => ((x4 = 0 → (Q 0 n5 μ6)) ∧ (¬ (x4 = 0) → ((inR ((μ6 399 4) - 1)) ∧ (CI G Y_X11_reads [.inr 399, .inl 1, .inl 0, .inl ((μ6 399 4) - 1)] n5 μ6 (fun (x9 : Int) (n10 : Nat) (μ11 : Mem) => ((x9 = 0 → (Q 0 n10 μ11)) ∧ (¬ (x9 = 0) → (((0 : Int) ≤ 6 * (μ 399 5) ∧ 6 * (μ 399 5) < 48) ∧ ((inR ((6 * (μ 399 5)) + 1)) ∧ (((0 : Int) ≤ (6 * (μ 399 5)) + 1 ∧ (6 * (μ 399 5)) + 1 < 48) ∧ ((¬ ((μ11 401 (6 * (μ 399 5))) = (μ11 401 ((6 * (μ 399 5)) + 1))) → (CI G Y_X11_reads [.inr 399, .inl 2, .inl 0, .inl 98] n10 μ11 (fun (x17 : Int) (n18 : Nat) (μ19 : Mem) => ((x17 = 0 → (Q 0 n18 μ19)) ∧ (¬ (x17 = 0) → ((inR ((6 * (μ 399 5)) + 2)) ∧ (((0 : Int) ≤ (6 * (μ 399 5)) + 2 ∧ (6 * (μ 399 5)) + 2 < 48) ∧ ((inR ((μ19 401 ((6 * (μ 399 5)) + 2)) + 1)) ∧ (CI G Y_X11_reads [.inr 399, .inl 3, .inl ((μ19 401 ((6 * (μ 399 5)) + 2)) + 1), .inl 99] n18 μ19 (fun (x24 : Int) (n25 : Nat) (μ26 : Mem) => ((x24 = 0 → (Q 0 n25 μ26)) ∧ (¬ (x24 = 0) → (CI G Y_X11_reads [.inr 399, .inl 4, .inl 1, .inl 9] n25 μ26 (fun (x28 : Int) (n29 : Nat) (μ30 : Mem) => ((x28 = 0 → (Q 0 n29 μ30)) ∧ (¬ (x28 = 0) → (CI G Y_X11_reads [.inr 399, .inl 5, .inl 0, .inl 9] n29 μ30 (fun (x32 : Int) (n33 : Nat) (μ34 : Mem) => ((¬ (x32 = 0) → ((inR ((μ34 399 5) + 1)) ∧ (Q 1 n33 (up μ34 399 5 ((μ34 399 5) + 1))))) ∧ (x32 = 0 → (Q 0 n33 μ34))))))))))))))))))))) ∧ ((μ11 401 (6 * (μ 399 5))) = (μ11 401 ((6 * (μ 399 5)) + 1)) → (Q 0 n10 μ11)))))))))))))))))) ∧ ((μ 399 5) = 8 → (Q 0 n μ)))) : CI G Y_X11_readsContact [.inr 399] n μ Q := by
  refine e_I (by decide) (Nat.le_of_ble_eq_true rfl) ?_
  show Wa G Y_X11_readsContact (ZI G Y_X11_readsContact Q) 0 0 n μ 0 [(0, .inr 399)] []
  refine a_aload_n (k := 0) dX11_readsContact_0 rfl rfl ?_
  refine g_X11_95 rfl dX11_readsContact_1 (St_ho hg St_399) ?_
  refine a_bipush dX11_readsContact_4 (by decide) (by decide) ?_
  refine a_icmp_ne (tgt := 11) dX11_readsContact_6 (by decide) (fun c1 => ?_) (fun c1 => ?_)
  · replace h := h.1 c1
    refine a_bipush dX11_readsContact_11 (by decide) (by decide) ?_
    refine a_aload_n (k := 0) dX11_readsContact_13 rfl rfl ?_
    refine g_X11_95 rfl dX11_readsContact_14 (St_ho hg St_399) ?_
    obtain ⟨q2, h⟩ := h
    refine a_imul dX11_readsContact_17 q2 ?_
    refine b_istore_n (L' := [(0, .inr 399), (1, .inl (6 * (μ 399 5)))]) [1, 0] dX11_readsContact_18 rfl (Nat.le_of_ble_eq_true rfl) rfl ?_
    refine a_aload_n (k := 0) dX11_readsContact_19 rfl rfl ?_
    refine a_iconst dX11_readsContact_20 (by decide) ?_
    refine a_iconst dX11_readsContact_21 (by decide) ?_
    refine a_aload_n (k := 0) dX11_readsContact_22 rfl rfl ?_
    refine g_X11_98 rfl dX11_readsContact_23 (St_ho hg St_399) ?_
    refine a_iconst dX11_readsContact_26 (by decide) ?_
    obtain ⟨q3, h⟩ := h
    refine a_isub dX11_readsContact_27 q3 ?_
    refine k_X11_101 rfl dX11_readsContact_28 (Nat.le_of_ble_eq_true rfl) rfl (Nat.le_of_ble_eq_true rfl) (Nat.le_of_ble_eq_true rfl) (St_ho hg St_399) h (fun x4 n5 μ6 h => ?_)
    refine a_if_eq (tgt := 66) dX11_readsContact_31 (by decide) (fun c7 => ?_) (fun c7 => ?_)
    · replace h := h.1 c7
      refine a_iconst dX11_readsContact_66 (by decide) ?_
      exact a_zret dX11_readsContact_67 rfl (Nat.le_of_ble_eq_true rfl) (Nat.le_of_ble_eq_true rfl) (by decide) h
    · replace h := h.2 c7
      refine a_aload_n (k := 0) dX11_readsContact_34 rfl rfl ?_
      refine a_iconst dX11_readsContact_35 (by decide) ?_
      refine a_iconst dX11_readsContact_36 (by decide) ?_
      refine a_aload_n (k := 0) dX11_readsContact_37 rfl rfl ?_
      refine g_X11_98 rfl dX11_readsContact_38 (St_ho hg St_399) ?_
      refine a_iconst dX11_readsContact_41 (by decide) ?_
      obtain ⟨q8, h⟩ := h
      refine a_isub dX11_readsContact_42 q8 ?_
      refine k_X11_101 rfl dX11_readsContact_43 (Nat.le_of_ble_eq_true rfl) rfl (Nat.le_of_ble_eq_true rfl) (Nat.le_of_ble_eq_true rfl) (St_ho hg St_399) h (fun x9 n10 μ11 h => ?_)
      refine a_if_eq (tgt := 66) dX11_readsContact_46 (by decide) (fun c12 => ?_) (fun c12 => ?_)
      · replace h := h.1 c12
        refine a_iconst dX11_readsContact_66 (by decide) ?_
        exact a_zret dX11_readsContact_67 rfl (Nat.le_of_ble_eq_true rfl) (Nat.le_of_ble_eq_true rfl) (by decide) h
      · replace h := h.2 c12
        refine a_aload_n (k := 0) dX11_readsContact_49 rfl rfl ?_
        refine gs_X11_13 rfl dX11_readsContact_50 hg St_399 ?_
        refine a_iload_n (k := 1) dX11_readsContact_53 rfl rfl ?_
        obtain ⟨q13, h⟩ := h
        refine a_iaload dX11_readsContact_54 (St_ho hg St_401) q13.1 q13.2 ?_
        refine a_aload_n (k := 0) dX11_readsContact_55 rfl rfl ?_
        refine gs_X11_13 rfl dX11_readsContact_56 hg St_399 ?_
        refine a_iload_n (k := 1) dX11_readsContact_59 rfl rfl ?_
        refine a_iconst dX11_readsContact_60 (by decide) ?_
        obtain ⟨q14, h⟩ := h
        refine a_iadd dX11_readsContact_61 q14 ?_
        obtain ⟨q15, h⟩ := h
        refine a_iaload dX11_readsContact_62 (St_ho hg St_401) q15.1 q15.2 ?_
        refine a_icmp_ne (tgt := 68) dX11_readsContact_63 (by decide) (fun c16 => ?_) (fun c16 => ?_)
        · replace h := h.1 c16
          refine a_aload_n (k := 0) dX11_readsContact_68 rfl rfl ?_
          refine a_iconst dX11_readsContact_69 (by decide) ?_
          refine a_iconst dX11_readsContact_70 (by decide) ?_
          refine a_bipush dX11_readsContact_71 (by decide) (by decide) ?_
          refine k_X11_101 rfl dX11_readsContact_73 (Nat.le_of_ble_eq_true rfl) rfl (Nat.le_of_ble_eq_true rfl) (Nat.le_of_ble_eq_true rfl) (St_ho hg St_399) h (fun x17 n18 μ19 h => ?_)
          refine a_if_eq (tgt := 121) dX11_readsContact_76 (by decide) (fun c20 => ?_) (fun c20 => ?_)
          · replace h := h.1 c20
            refine a_iconst dX11_readsContact_121 (by decide) ?_
            exact a_zret dX11_readsContact_122 rfl (Nat.le_of_ble_eq_true rfl) (Nat.le_of_ble_eq_true rfl) (by decide) h
          · replace h := h.2 c20
            refine a_aload_n (k := 0) dX11_readsContact_79 rfl rfl ?_
            refine a_iconst dX11_readsContact_80 (by decide) ?_
            refine a_aload_n (k := 0) dX11_readsContact_81 rfl rfl ?_
            refine gs_X11_13 rfl dX11_readsContact_82 hg St_399 ?_
            refine a_iload_n (k := 1) dX11_readsContact_85 rfl rfl ?_
            refine a_iconst dX11_readsContact_86 (by decide) ?_
            obtain ⟨q21, h⟩ := h
            refine a_iadd dX11_readsContact_87 q21 ?_
            obtain ⟨q22, h⟩ := h
            refine a_iaload dX11_readsContact_88 (St_ho hg St_401) q22.1 q22.2 ?_
            refine a_iconst dX11_readsContact_89 (by decide) ?_
            obtain ⟨q23, h⟩ := h
            refine a_iadd dX11_readsContact_90 q23 ?_
            refine a_bipush dX11_readsContact_91 (by decide) (by decide) ?_
            refine k_X11_101 rfl dX11_readsContact_93 (Nat.le_of_ble_eq_true rfl) rfl (Nat.le_of_ble_eq_true rfl) (Nat.le_of_ble_eq_true rfl) (St_ho hg St_399) h (fun x24 n25 μ26 h => ?_)
            refine a_if_eq (tgt := 121) dX11_readsContact_96 (by decide) (fun c27 => ?_) (fun c27 => ?_)
            · replace h := h.1 c27
              refine a_iconst dX11_readsContact_121 (by decide) ?_
              exact a_zret dX11_readsContact_122 rfl (Nat.le_of_ble_eq_true rfl) (Nat.le_of_ble_eq_true rfl) (by decide) h
            · replace h := h.2 c27
              refine a_aload_n (k := 0) dX11_readsContact_99 rfl rfl ?_
              refine a_iconst dX11_readsContact_100 (by decide) ?_
              refine a_iconst dX11_readsContact_101 (by decide) ?_
              refine a_bipush dX11_readsContact_102 (by decide) (by decide) ?_
              refine k_X11_101 rfl dX11_readsContact_104 (Nat.le_of_ble_eq_true rfl) rfl (Nat.le_of_ble_eq_true rfl) (Nat.le_of_ble_eq_true rfl) (St_ho hg St_399) h (fun x28 n29 μ30 h => ?_)
              refine a_if_eq (tgt := 121) dX11_readsContact_107 (by decide) (fun c31 => ?_) (fun c31 => ?_)
              · replace h := h.1 c31
                refine a_iconst dX11_readsContact_121 (by decide) ?_
                exact a_zret dX11_readsContact_122 rfl (Nat.le_of_ble_eq_true rfl) (Nat.le_of_ble_eq_true rfl) (by decide) h
              · replace h := h.2 c31
                refine a_aload_n (k := 0) dX11_readsContact_110 rfl rfl ?_
                refine a_iconst dX11_readsContact_111 (by decide) ?_
                refine a_iconst dX11_readsContact_112 (by decide) ?_
                refine a_bipush dX11_readsContact_113 (by decide) (by decide) ?_
                refine k_X11_101 rfl dX11_readsContact_115 (Nat.le_of_ble_eq_true rfl) rfl (Nat.le_of_ble_eq_true rfl) (Nat.le_of_ble_eq_true rfl) (St_ho hg St_399) h (fun x32 n33 μ34 h => ?_)
                refine a_if_ne (tgt := 123) dX11_readsContact_118 (by decide) (fun c35 => ?_) (fun c35 => ?_)
                · replace h := h.1 c35
                  refine a_aload_n (k := 0) dX11_readsContact_123 rfl rfl ?_
                  refine a_dup dX11_readsContact_124 ?_
                  refine g_X11_95 rfl dX11_readsContact_125 (St_ho hg St_399) ?_
                  refine a_iconst dX11_readsContact_128 (by decide) ?_
                  obtain ⟨q36, h⟩ := h
                  refine a_iadd dX11_readsContact_129 q36 ?_
                  refine p_X11_95 rfl dX11_readsContact_130 (St_ho hg St_399) (FX_put hg St_399 rfl) ?_
                  refine a_iconst dX11_readsContact_133 (by decide) ?_
                  exact a_zret dX11_readsContact_134 rfl (Nat.le_of_ble_eq_true rfl) (Nat.le_of_ble_eq_true rfl) (by decide) h
                · replace h := h.2 c35
                  refine a_iconst dX11_readsContact_121 (by decide) ?_
                  exact a_zret dX11_readsContact_122 rfl (Nat.le_of_ble_eq_true rfl) (Nat.le_of_ble_eq_true rfl) (by decide) h
        · replace h := h.2 c16
          refine a_iconst dX11_readsContact_66 (by decide) ?_
          exact a_zret dX11_readsContact_67 rfl (Nat.le_of_ble_eq_true rfl) (Nat.le_of_ble_eq_true rfl) (by decide) h
  · replace h := h.2 c1
    refine a_iconst dX11_readsContact_9 (by decide) ?_
    exact a_zret dX11_readsContact_10 rfl (Nat.le_of_ble_eq_true rfl) (Nat.le_of_ble_eq_true rfl) (by decide) h
abbrev B_X11_readsNodes_42 (G : GT) (Q : Int → Nat → Mem → Prop) (n : Nat) (μ : Mem) (u0 : Int) (u1 : Int) : Prop := Wa G Y_X11_readsNodes (ZI G Y_X11_readsNodes Q) 0 0 n μ 42 [(0, .inr 399)] [.inl u0, .inr u1]
theorem m_X11_readsNodes {G : GT} (hg : gx G = FX) {n : Nat} {μ : Mem} {Q : Int → Nat → Mem → Prop} {v1 : Int}  (h : ((v1 ≤ 0 → (CV G Y_X11_takes [.inr 399] n μ (fun (n3 : Nat) (μ4 : Mem) => (CI G Y_X11_in [.inl (μ4 399 21), .inl 1002, .inl 1006] n3 μ4 (fun (x5 : Int) (n6 : Nat) (μ7 : Mem) => ((x5 = 0 → (B_X11_readsNodes_42 G Q n6 μ7 (μ7 399 4) 399)) ∧ (¬ (x5 = 0) → ((inR ((μ7 399 21) - 1000)) ∧ (B_X11_readsNodes_42 G Q n6 μ7 ((μ7 399 21) - 1000) 399))))))))) ∧ (¬ (v1 ≤ 0) → (Q 0 n μ)))) : CI G Y_X11_readsNodes [.inr 399, .inl v1] n μ Q := by
  refine e_I (by decide) (Nat.le_of_ble_eq_true rfl) ?_
  show Wa G Y_X11_readsNodes (ZI G Y_X11_readsNodes Q) 0 0 n μ 0 [(0, .inr 399), (1, .inl v1)] []
  refine a_iload_n (k := 1) dX11_readsNodes_0 rfl rfl ?_
  refine a_if_le (tgt := 6) dX11_readsNodes_1 (by decide) (fun c1 => ?_) (fun c1 => ?_)
  · replace h := h.1 c1
    refine a_aload_n (k := 0) dX11_readsNodes_6 rfl rfl ?_
    refine k_X11_92 rfl dX11_readsNodes_7 (Nat.le_of_ble_eq_true rfl) rfl (Nat.le_of_ble_eq_true rfl) (Nat.le_of_ble_eq_true rfl) (St_ho hg St_399) h (fun n3 μ4 h => ?_)
    refine a_aload_n (k := 0) dX11_readsNodes_10 rfl rfl ?_
    refine a_aload_n (k := 0) dX11_readsNodes_11 rfl rfl ?_
    refine g_X11_85 rfl dX11_readsNodes_12 (St_ho hg St_399) ?_
    refine a_sipush dX11_readsNodes_15 (by decide) (by decide) ?_
    refine a_sipush dX11_readsNodes_18 (by decide) (by decide) ?_
    refine k_X11_69 rfl dX11_readsNodes_21 (Nat.le_of_ble_eq_true rfl) rfl (Nat.le_of_ble_eq_true rfl) (Nat.le_of_ble_eq_true rfl) h (fun x5 n6 μ7 h => ?_)
    refine a_if_eq (tgt := 38) dX11_readsNodes_24 (by decide) (fun c8 => ?_) (fun c8 => ?_)
    · replace h := h.1 c8
      refine a_aload_n (k := 0) dX11_readsNodes_38 rfl rfl ?_
      refine g_X11_98 rfl dX11_readsNodes_39 (St_ho hg St_399) ?_
      refine a_sub [0] rfl ?_
      exact h
    · replace h := h.2 c8
      refine a_aload_n (k := 0) dX11_readsNodes_27 rfl rfl ?_
      refine g_X11_85 rfl dX11_readsNodes_28 (St_ho hg St_399) ?_
      refine a_sipush dX11_readsNodes_31 (by decide) (by decide) ?_
      obtain ⟨q9, h⟩ := h
      refine a_isub dX11_readsNodes_34 q9 ?_
      refine a_goto (tgt := 42) dX11_readsNodes_35 (by decide) ?_
      refine a_sub [0] rfl ?_
      exact h
  · replace h := h.2 c1
    refine a_iconst dX11_readsNodes_4 (by decide) ?_
    exact a_zret dX11_readsNodes_5 rfl (Nat.le_of_ble_eq_true rfl) (Nat.le_of_ble_eq_true rfl) (by decide) h
theorem b_X11_readsNodes_42 {G : GT} (hg : gx G = FX) {n : Nat} {μ : Mem} {Q : Int → Nat → Mem → Prop} {u0 u1 : Int} (ou1 : St u1 11 28) (h : (CI G Y_X11_in [.inl ((up μ u1 4 u0) 399 21), .inl 1002, .inl 1006] n (up μ u1 4 u0) (fun (x1 : Int) (n2 : Nat) (μ3 : Mem) => ((x1 = 0 ∨ x1 = 1) ∧ (Q x1 n2 μ3))))) : B_X11_readsNodes_42 G Q n μ u0 u1 := by
  show Wa G Y_X11_readsNodes (ZI G Y_X11_readsNodes Q) 0 0 n μ 42 [(0, .inr 399)] [.inl u0, .inr u1]
  refine p_X11_98 rfl dX11_readsNodes_42 (St_ho hg ou1) (FX_put hg ou1 rfl) ?_
  refine a_aload_n (k := 0) dX11_readsNodes_45 rfl rfl ?_
  refine g_X11_85 rfl dX11_readsNodes_46 (St_ho hg St_399) ?_
  refine a_sipush dX11_readsNodes_49 (by decide) (by decide) ?_
  refine a_sipush dX11_readsNodes_52 (by decide) (by decide) ?_
  refine k_X11_69 rfl dX11_readsNodes_55 (Nat.le_of_ble_eq_true rfl) rfl (Nat.le_of_ble_eq_true rfl) (Nat.le_of_ble_eq_true rfl) h (fun x1 n2 μ3 h => ?_)
  obtain ⟨q4, h⟩ := h
  exact a_zret dX11_readsNodes_58 rfl (Nat.le_of_ble_eq_true rfl) (Nat.le_of_ble_eq_true rfl) q4 h
theorem m_X11_begins {G : GT} (hg : gx G = FX) {n : Nat} {μ : Mem} {Q : Nat → Mem → Prop}  (h : (Q n (up (up μ 399 4 2) 399 5 0))) : CV G Y_X11_begins [.inr 399] n μ Q := by
  refine e_V (by decide) (Nat.le_of_ble_eq_true rfl) ?_
  show Wa G Y_X11_begins (ZV G Y_X11_begins Q) 0 0 n μ 0 [(0, .inr 399)] []
  refine a_aload_n (k := 0) dX11_begins_0 rfl rfl ?_
  refine a_iconst dX11_begins_1 (by decide) ?_
  refine p_X11_98 rfl dX11_begins_2 (St_ho hg St_399) (FX_put hg St_399 rfl) ?_
  refine a_aload_n (k := 0) dX11_begins_5 rfl rfl ?_
  refine a_iconst dX11_begins_6 (by decide) ?_
  refine p_X11_95 rfl dX11_begins_7 (St_ho hg St_399) (FX_put hg St_399 rfl) ?_
  exact a_ret dX11_begins_10 rfl (Nat.le_of_ble_eq_true rfl) (Nat.le_of_ble_eq_true rfl) h
abbrev B_X11_becomes_18 (G : GT) (Q : Nat → Mem → Prop) (n : Nat) (μ : Mem) (v1 : Int) : Prop := Wa G Y_X11_becomes (ZV G Y_X11_becomes Q) 0 0 n μ 18 [(0, .inr 399), (1, .inl v1)] []
theorem m_X11_becomes {G : GT} (hg : gx G = FX) {n : Nat} {μ : Mem} {Q : Nat → Mem → Prop}  (h : (B_X11_becomes_18 G Q n (up (up μ 399 1 (μ 399 4)) 399 2 ((up μ 399 1 (μ 399 4)) 399 5)) 0)) : CV G Y_X11_becomes [.inr 399] n μ Q := by
  refine e_V (by decide) (Nat.le_of_ble_eq_true rfl) ?_
  show Wa G Y_X11_becomes (ZV G Y_X11_becomes Q) 0 0 n μ 0 [(0, .inr 399)] []
  refine a_aload_n (k := 0) dX11_becomes_0 rfl rfl ?_
  refine a_aload_n (k := 0) dX11_becomes_1 rfl rfl ?_
  refine g_X11_98 rfl dX11_becomes_2 (St_ho hg St_399) ?_
  refine p_X11_66 rfl dX11_becomes_5 (St_ho hg St_399) (FX_put hg St_399 rfl) ?_
  refine a_aload_n (k := 0) dX11_becomes_8 rfl rfl ?_
  refine a_aload_n (k := 0) dX11_becomes_9 rfl rfl ?_
  refine g_X11_95 rfl dX11_becomes_10 (St_ho hg St_399) ?_
  refine p_X11_73 rfl dX11_becomes_13 (St_ho hg St_399) (FX_put hg St_399 rfl) ?_
  refine a_iconst dX11_becomes_16 (by decide) ?_
  refine b_istore_n (L' := [(0, .inr 399), (1, .inl 0)]) [1, 0] dX11_becomes_17 rfl (Nat.le_of_ble_eq_true rfl) rfl ?_
  exact h
theorem b_X11_becomes_18 {G : GT} (hg : gx G = FX) {n : Nat} {μ : Mem} {Q : Nat → Mem → Prop} {v1 : Int}  (h : ((48 ≤ v1 → (Q n (up (up (up (up (up (up (up μ 402 0 0) 402 1 0) 402 2 0) 399 8 0) 399 13 0) 405 0 0) 405 1 0))) ∧ (¬ (48 ≤ v1) → (((0 : Int) ≤ v1 ∧ v1 < 48) ∧ (((0 : Int) ≤ v1 ∧ v1 < 48) ∧ ((inR (v1 + 1)) ∧ (B_X11_becomes_18 G Q n (up μ 400 v1 (μ 401 v1)) (v1 + 1)))))))) : B_X11_becomes_18 G Q n μ v1 := by
  show Wa G Y_X11_becomes (ZV G Y_X11_becomes Q) 0 0 n μ 18 [(0, .inr 399), (1, .inl v1)] []
  refine a_iload_n (k := 1) dX11_becomes_18 rfl rfl ?_
  refine a_bipush dX11_becomes_19 (by decide) (by decide) ?_
  refine a_icmp_ge (tgt := 42) dX11_becomes_21 (by decide) (fun c1 => ?_) (fun c1 => ?_)
  · replace h := h.1 c1
    refine a_aload_n (k := 0) dX11_becomes_42 rfl rfl ?_
    refine gs_X11_16 rfl dX11_becomes_43 hg St_399 ?_
    refine a_iconst dX11_becomes_46 (by decide) ?_
    refine a_iconst dX11_becomes_47 (by decide) ?_
    refine a_iastore dX11_becomes_48 (St_ho hg St_402) (by decide) (by decide) (FX_put hg St_402 rfl) ?_
    refine a_aload_n (k := 0) dX11_becomes_49 rfl rfl ?_
    refine gs_X11_16 rfl dX11_becomes_50 hg St_399 ?_
    refine a_iconst dX11_becomes_53 (by decide) ?_
    refine a_iconst dX11_becomes_54 (by decide) ?_
    refine a_iastore dX11_becomes_55 (St_ho hg St_402) (by decide) (by decide) (FX_put hg St_402 rfl) ?_
    refine a_aload_n (k := 0) dX11_becomes_56 rfl rfl ?_
    refine gs_X11_16 rfl dX11_becomes_57 hg St_399 ?_
    refine a_iconst dX11_becomes_60 (by decide) ?_
    refine a_iconst dX11_becomes_61 (by decide) ?_
    refine a_iastore dX11_becomes_62 (St_ho hg St_402) (by decide) (by decide) (FX_put hg St_402 rfl) ?_
    refine a_aload_n (k := 0) dX11_becomes_63 rfl rfl ?_
    refine a_iconst dX11_becomes_64 (by decide) ?_
    refine p_X11_104 rfl dX11_becomes_65 (St_ho hg St_399) (FX_put hg St_399 rfl) ?_
    refine a_aload_n (k := 0) dX11_becomes_68 rfl rfl ?_
    refine a_iconst dX11_becomes_69 (by decide) ?_
    refine p_X11_107 rfl dX11_becomes_70 (St_ho hg St_399) (FX_put hg St_399 rfl) ?_
    refine a_aload_n (k := 0) dX11_becomes_73 rfl rfl ?_
    refine gs_X11_25 rfl dX11_becomes_74 hg St_399 ?_
    refine a_iconst dX11_becomes_77 (by decide) ?_
    refine a_iconst dX11_becomes_78 (by decide) ?_
    refine a_zastore dX11_becomes_79 (St_ho hg St_405) (by decide) (by decide) (by decide) (FX_put hg St_405 rfl) ?_
    refine a_aload_n (k := 0) dX11_becomes_80 rfl rfl ?_
    refine gs_X11_25 rfl dX11_becomes_81 hg St_399 ?_
    refine a_iconst dX11_becomes_84 (by decide) ?_
    refine a_iconst dX11_becomes_85 (by decide) ?_
    refine a_zastore dX11_becomes_86 (St_ho hg St_405) (by decide) (by decide) (by decide) (FX_put hg St_405 rfl) ?_
    exact a_ret dX11_becomes_87 rfl (Nat.le_of_ble_eq_true rfl) (Nat.le_of_ble_eq_true rfl) h
  · replace h := h.2 c1
    refine a_aload_n (k := 0) dX11_becomes_24 rfl rfl ?_
    refine gs_X11_7 rfl dX11_becomes_25 hg St_399 ?_
    refine a_iload_n (k := 1) dX11_becomes_28 rfl rfl ?_
    refine a_aload_n (k := 0) dX11_becomes_29 rfl rfl ?_
    refine gs_X11_13 rfl dX11_becomes_30 hg St_399 ?_
    refine a_iload_n (k := 1) dX11_becomes_33 rfl rfl ?_
    obtain ⟨q2, h⟩ := h
    refine a_iaload dX11_becomes_34 (St_ho hg St_401) q2.1 q2.2 ?_
    obtain ⟨q3, h⟩ := h
    refine a_iastore dX11_becomes_35 (St_ho hg St_400) q3.1 q3.2 (FX_put hg St_400 rfl) ?_
    obtain ⟨q4, h⟩ := h
    refine b_iinc (L' := [(0, .inr 399), (1, .inl (v1 + 1))]) (k := 1) [1, 0] dX11_becomes_36 rfl q4 (Nat.le_of_ble_eq_true rfl) rfl ?_
    refine a_goto (tgt := 18) dX11_becomes_39 (by decide) ?_
    exact h
abbrev B_X11_plan_20 (G : GT) (Q : Int → Nat → Mem → Prop) (n : Nat) (μ : Mem) (v1 : Int) : Prop := Wa G Y_X11_plan (ZI G Y_X11_plan Q) 0 0 n μ 20 [(0, .inr 399), (1, .inl v1)] []
abbrev B_X11_plan_65 (G : GT) (Q : Int → Nat → Mem → Prop) (n : Nat) (μ : Mem) (v1 : Int) : Prop := Wa G Y_X11_plan (ZI G Y_X11_plan Q) 0 0 n μ 65 [(0, .inr 399), (1, .inl v1)] []
abbrev B_X11_plan_66 (G : GT) (Q : Int → Nat → Mem → Prop) (n : Nat) (μ : Mem) (v1 : Int) (u0 : Int) : Prop := Wa G Y_X11_plan (ZI G Y_X11_plan Q) 0 0 n μ 66 [(0, .inr 399), (1, .inl v1)] [.inl u0]
abbrev B_X11_plan_75 (G : GT) (Q : Int → Nat → Mem → Prop) (n : Nat) (μ : Mem) (v1 : Int) (v2 : Int) : Prop := Wa G Y_X11_plan (ZI G Y_X11_plan Q) 0 0 n μ 75 [(0, .inr 399), (1, .inl v1), (2, .inl v2)] []
theorem m_X11_plan {G : GT} (hg : gx G = FX) {n : Nat} {μ : Mem} {Q : Int → Nat → Mem → Prop}  (h : (CV G Y_X11_begins [.inr 399] n (up μ 399 0 0) (fun (n2 : Nat) (μ3 : Mem) => (CV G Y_X11_takes [.inr 399] n2 (up μ3 399 19 0) (fun (n5 : Nat) (μ6 : Mem) => (B_X11_plan_20 G Q n5 μ6 0)))))) : CI G Y_X11_plan [.inr 399] n μ Q := by
  refine e_I (by decide) (Nat.le_of_ble_eq_true rfl) ?_
  show Wa G Y_X11_plan (ZI G Y_X11_plan Q) 0 0 n μ 0 [(0, .inr 399)] []
  refine a_aload_n (k := 0) dX11_plan_0 rfl rfl ?_
  refine a_iconst dX11_plan_1 (by decide) ?_
  refine p_X11_62 rfl dX11_plan_2 (St_ho hg St_399) (FX_put hg St_399 rfl) ?_
  refine a_aload_n (k := 0) dX11_plan_5 rfl rfl ?_
  refine k_X11_56 rfl dX11_plan_6 (Nat.le_of_ble_eq_true rfl) rfl (Nat.le_of_ble_eq_true rfl) (Nat.le_of_ble_eq_true rfl) (St_ho hg St_399) h (fun n2 μ3 h => ?_)
  refine a_aload_n (k := 0) dX11_plan_9 rfl rfl ?_
  refine a_iconst dX11_plan_10 (by decide) ?_
  refine p_X11_79 rfl dX11_plan_11 (St_ho hg St_399) (FX_put hg St_399 rfl) ?_
  refine a_iconst dX11_plan_14 (by decide) ?_
  refine b_istore_n (L' := [(0, .inr 399), (1, .inl 0)]) [1, 0] dX11_plan_15 rfl (Nat.le_of_ble_eq_true rfl) rfl ?_
  refine a_aload_n (k := 0) dX11_plan_16 rfl rfl ?_
  refine k_X11_92 rfl dX11_plan_17 (Nat.le_of_ble_eq_true rfl) rfl (Nat.le_of_ble_eq_true rfl) (Nat.le_of_ble_eq_true rfl) (St_ho hg St_399) h (fun n5 μ6 h => ?_)
  exact h
theorem b_X11_plan_20 {G : GT} (hg : gx G = FX) {n : Nat} {μ : Mem} {Q : Int → Nat → Mem → Prop} {v1 : Int}  (h : (((μ 399 21) = (-1) → (CV G Y_X11_becomes [.inr 399] n μ (fun (n3 : Nat) (μ4 : Mem) => (Q v1 n3 (up μ4 399 17 0))))) ∧ (¬ ((μ 399 21) = (-1)) → ((¬ ((μ 399 21) = 110) → ((¬ ((μ 399 21) = 99) → (B_X11_plan_65 G Q n μ v1)) ∧ ((μ 399 21) = 99 → (CI G Y_X11_readsContact [.inr 399] n μ (fun (x7 : Int) (n8 : Nat) (μ9 : Mem) => ((x7 = 0 → (B_X11_plan_65 G Q n8 μ9 v1)) ∧ (¬ (x7 = 0) → (B_X11_plan_66 G Q n8 μ9 v1 1)))))))) ∧ ((μ 399 21) = 110 → (CI G Y_X11_readsNodes [.inr 399, .inl v1] n μ (fun (x11 : Int) (n12 : Nat) (μ13 : Mem) => (B_X11_plan_66 G Q n12 μ13 v1 x11)))))))) : B_X11_plan_20 G Q n μ v1 := by
  show Wa G Y_X11_plan (ZI G Y_X11_plan Q) 0 0 n μ 20 [(0, .inr 399), (1, .inl v1)] []
  refine a_aload_n (k := 0) dX11_plan_20 rfl rfl ?_
  refine g_X11_85 rfl dX11_plan_21 (St_ho hg St_399) ?_
  refine a_iconst dX11_plan_24 (by decide) ?_
  refine a_icmp_eq (tgt := 106) dX11_plan_25 (by decide) (fun c1 => ?_) (fun c1 => ?_)
  · replace h := h.1 c1
    refine a_aload_n (k := 0) dX11_plan_106 rfl rfl ?_
    refine k_X11_59 rfl dX11_plan_107 (Nat.le_of_ble_eq_true rfl) rfl (Nat.le_of_ble_eq_true rfl) (Nat.le_of_ble_eq_true rfl) (St_ho hg St_399) h (fun n3 μ4 h => ?_)
    refine a_aload_n (k := 0) dX11_plan_110 rfl rfl ?_
    refine a_iconst dX11_plan_111 (by decide) ?_
    refine p_X11_76 rfl dX11_plan_112 (St_ho hg St_399) (FX_put hg St_399 rfl) ?_
    refine a_iload_n (k := 1) dX11_plan_115 rfl rfl ?_
    exact a_iret dX11_plan_116 rfl (Nat.le_of_ble_eq_true rfl) (Nat.le_of_ble_eq_true rfl) h
  · replace h := h.2 c1
    refine a_aload_n (k := 0) dX11_plan_28 rfl rfl ?_
    refine g_X11_85 rfl dX11_plan_29 (St_ho hg St_399) ?_
    refine a_bipush dX11_plan_32 (by decide) (by decide) ?_
    refine a_icmp_ne (tgt := 45) dX11_plan_34 (by decide) (fun c5 => ?_) (fun c5 => ?_)
    · replace h := h.1 c5
      refine a_aload_n (k := 0) dX11_plan_45 rfl rfl ?_
      refine g_X11_85 rfl dX11_plan_46 (St_ho hg St_399) ?_
      refine a_bipush dX11_plan_49 (by decide) (by decide) ?_
      refine a_icmp_ne (tgt := 65) dX11_plan_51 (by decide) (fun c6 => ?_) (fun c6 => ?_)
      · replace h := h.1 c6
        exact h
      · replace h := h.2 c6
        refine a_aload_n (k := 0) dX11_plan_54 rfl rfl ?_
        refine k_X11_113 rfl dX11_plan_55 (Nat.le_of_ble_eq_true rfl) rfl (Nat.le_of_ble_eq_true rfl) (Nat.le_of_ble_eq_true rfl) (St_ho hg St_399) h (fun x7 n8 μ9 h => ?_)
        refine a_if_eq (tgt := 65) dX11_plan_58 (by decide) (fun c10 => ?_) (fun c10 => ?_)
        · replace h := h.1 c10
          exact h
        · replace h := h.2 c10
          refine a_iconst dX11_plan_61 (by decide) ?_
          refine a_goto (tgt := 66) dX11_plan_62 (by decide) ?_
          exact h
    · replace h := h.2 c5
      refine a_aload_n (k := 0) dX11_plan_37 rfl rfl ?_
      refine a_iload_n (k := 1) dX11_plan_38 rfl rfl ?_
      refine k_X11_110 rfl dX11_plan_39 (Nat.le_of_ble_eq_true rfl) rfl (Nat.le_of_ble_eq_true rfl) (Nat.le_of_ble_eq_true rfl) (St_ho hg St_399) h (fun x11 n12 μ13 h => ?_)
      refine a_goto (tgt := 66) dX11_plan_42 (by decide) ?_
      exact h
theorem b_X11_plan_65 {G : GT} (hg : gx G = FX) {n : Nat} {μ : Mem} {Q : Int → Nat → Mem → Prop} {v1 : Int}  (h : (B_X11_plan_66 G Q n μ v1 0)) : B_X11_plan_65 G Q n μ v1 := by
  show Wa G Y_X11_plan (ZI G Y_X11_plan Q) 0 0 n μ 65 [(0, .inr 399), (1, .inl v1)] []
  refine a_iconst dX11_plan_65 (by decide) ?_
  exact h
theorem b_X11_plan_66 {G : GT} (hg : gx G = FX) {n : Nat} {μ : Mem} {Q : Int → Nat → Mem → Prop} {v1 u0 : Int}  (h : ((u0 = 0 → (B_X11_plan_75 G Q n μ v1 u0)) ∧ (¬ (u0 = 0) → (CV G Y_X11_takes [.inr 399] n μ (fun (n3 : Nat) (μ4 : Mem) => (B_X11_plan_75 G Q n3 μ4 v1 u0)))))) : B_X11_plan_66 G Q n μ v1 u0 := by
  show Wa G Y_X11_plan (ZI G Y_X11_plan Q) 0 0 n μ 66 [(0, .inr 399), (1, .inl v1)] [.inl u0]
  refine b_istore_n (L' := [(0, .inr 399), (1, .inl v1), (2, .inl u0)]) [1, 2, 0] dX11_plan_66 rfl (Nat.le_of_ble_eq_true rfl) rfl ?_
  refine a_iload_n (k := 2) dX11_plan_67 rfl rfl ?_
  refine a_if_eq (tgt := 75) dX11_plan_68 (by decide) (fun c1 => ?_) (fun c1 => ?_)
  · replace h := h.1 c1
    exact h
  · replace h := h.2 c1
    refine a_aload_n (k := 0) dX11_plan_71 rfl rfl ?_
    refine k_X11_92 rfl dX11_plan_72 (Nat.le_of_ble_eq_true rfl) rfl (Nat.le_of_ble_eq_true rfl) (Nat.le_of_ble_eq_true rfl) (St_ho hg St_399) h (fun n3 μ4 h => ?_)
    exact h
theorem b_X11_plan_75 {G : GT} (hg : gx G = FX) {n : Nat} {μ : Mem} {Q : Int → Nat → Mem → Prop} {v1 v2 : Int}  (h : ((v2 = 0 → ((inR ((-10) - (μ 399 20))) ∧ (Q ((-10) - (μ 399 20)) n μ))) ∧ (¬ (v2 = 0) → (((μ 399 21) = 59 → ((inR (v1 + 1)) ∧ (CV G Y_X11_takes [.inr 399] n μ (fun (n6 : Nat) (μ7 : Mem) => (B_X11_plan_20 G Q n6 μ7 (v1 + 1)))))) ∧ (¬ ((μ 399 21) = 59) → ((inR ((-10) - (μ 399 20))) ∧ (Q ((-10) - (μ 399 20)) n μ))))))) : B_X11_plan_75 G Q n μ v1 v2 := by
  show Wa G Y_X11_plan (ZI G Y_X11_plan Q) 0 0 n μ 75 [(0, .inr 399), (1, .inl v1), (2, .inl v2)] []
  refine a_iload_n (k := 2) dX11_plan_75 rfl rfl ?_
  refine a_if_eq (tgt := 88) dX11_plan_76 (by decide) (fun c1 => ?_) (fun c1 => ?_)
  · replace h := h.1 c1
    refine a_bipush dX11_plan_88 (by decide) (by decide) ?_
    refine a_aload_n (k := 0) dX11_plan_90 rfl rfl ?_
    refine g_X11_82 rfl dX11_plan_91 (St_ho hg St_399) ?_
    obtain ⟨q2, h⟩ := h
    refine a_isub dX11_plan_94 q2 ?_
    exact a_iret dX11_plan_95 rfl (Nat.le_of_ble_eq_true rfl) (Nat.le_of_ble_eq_true rfl) h
  · replace h := h.2 c1
    refine a_aload_n (k := 0) dX11_plan_79 rfl rfl ?_
    refine g_X11_85 rfl dX11_plan_80 (St_ho hg St_399) ?_
    refine a_bipush dX11_plan_83 (by decide) (by decide) ?_
    refine a_icmp_eq (tgt := 96) dX11_plan_85 (by decide) (fun c3 => ?_) (fun c3 => ?_)
    · replace h := h.1 c3
      obtain ⟨q4, h⟩ := h
      refine b_iinc (L' := [(0, .inr 399), (1, .inl (v1 + 1)), (2, .inl v2)]) (k := 1) [1, 0, 2] dX11_plan_96 rfl q4 (Nat.le_of_ble_eq_true rfl) rfl ?_
      refine a_aload_n (k := 0) dX11_plan_99 rfl rfl ?_
      refine k_X11_92 rfl dX11_plan_100 (Nat.le_of_ble_eq_true rfl) rfl (Nat.le_of_ble_eq_true rfl) (Nat.le_of_ble_eq_true rfl) (St_ho hg St_399) h (fun n6 μ7 h => ?_)
      refine a_goto (tgt := 20) dX11_plan_103 (by decide) ?_
      refine a_sub [0, 1] rfl ?_
      exact h
    · replace h := h.2 c3
      refine a_bipush dX11_plan_88 (by decide) (by decide) ?_
      refine a_aload_n (k := 0) dX11_plan_90 rfl rfl ?_
      refine g_X11_82 rfl dX11_plan_91 (St_ho hg St_399) ?_
      obtain ⟨q8, h⟩ := h
      refine a_isub dX11_plan_94 q8 ?_
      exact a_iret dX11_plan_95 rfl (Nat.le_of_ble_eq_true rfl) (Nat.le_of_ble_eq_true rfl) h
theorem m_X11_contact {G : GT} (hg : gx G = FX) {n : Nat} {μ : Mem} {Q : Int → Nat → Mem → Prop} {v1 v2 : Int}  (h : (CI G Y_X11_isContact [.inr 399, .inl v1] n (up μ 399 0 0) (fun (x1 : Int) (n2 : Nat) (μ3 : Mem) => ((x1 = 0 → (Q (-1) n2 μ3)) ∧ (¬ (x1 = 0) → (CI G Y_X11_in [.inl v2, .inl 0, .inl 6] n2 μ3 (fun (x5 : Int) (n6 : Nat) (μ7 : Mem) => ((¬ (x5 = 0) → ((6 ≤ v2 → (CI G Y_X11_isMissed [.inr 399, .inl v1] n6 μ7 (fun (x10 : Int) (n11 : Nat) (μ12 : Mem) => ((x10 = 0 → (Q 0 n11 μ12)) ∧ (¬ (x10 = 0) → (Q 1 n11 μ12)))))) ∧ (¬ (6 ≤ v2) → ((inR (6 * v1)) ∧ ((inR ((6 * v1) + v2)) ∧ (((0 : Int) ≤ (6 * v1) + v2 ∧ (6 * v1) + v2 < 48) ∧ (Q (μ7 400 ((6 * v1) + v2)) n6 μ7))))))) ∧ (x5 = 0 → (Q (-1) n6 μ7)))))))))) : CI G Y_X11_contact [.inr 399, .inl v1, .inl v2] n μ Q := by
  refine e_I (by decide) (Nat.le_of_ble_eq_true rfl) ?_
  show Wa G Y_X11_contact (ZI G Y_X11_contact Q) 0 0 n μ 0 [(0, .inr 399), (1, .inl v1), (2, .inl v2)] []
  refine a_aload_n (k := 0) dX11_contact_0 rfl rfl ?_
  refine a_iconst dX11_contact_1 (by decide) ?_
  refine p_X11_62 rfl dX11_contact_2 (St_ho hg St_399) (FX_put hg St_399 rfl) ?_
  refine a_aload_n (k := 0) dX11_contact_5 rfl rfl ?_
  refine a_iload_n (k := 1) dX11_contact_6 rfl rfl ?_
  refine k_X11_117 rfl dX11_contact_7 (Nat.le_of_ble_eq_true rfl) rfl (Nat.le_of_ble_eq_true rfl) (Nat.le_of_ble_eq_true rfl) (St_ho hg St_399) h (fun x1 n2 μ3 h => ?_)
  refine a_if_eq (tgt := 23) dX11_contact_10 (by decide) (fun c4 => ?_) (fun c4 => ?_)
  · replace h := h.1 c4
    refine a_iconst dX11_contact_23 (by decide) ?_
    exact a_iret dX11_contact_24 rfl (Nat.le_of_ble_eq_true rfl) (Nat.le_of_ble_eq_true rfl) h
  · replace h := h.2 c4
    refine a_iload_n (k := 2) dX11_contact_13 rfl rfl ?_
    refine a_iconst dX11_contact_14 (by decide) ?_
    refine a_bipush dX11_contact_15 (by decide) (by decide) ?_
    refine k_X11_69 rfl dX11_contact_17 (Nat.le_of_ble_eq_true rfl) rfl (Nat.le_of_ble_eq_true rfl) (Nat.le_of_ble_eq_true rfl) h (fun x5 n6 μ7 h => ?_)
    refine a_if_ne (tgt := 25) dX11_contact_20 (by decide) (fun c8 => ?_) (fun c8 => ?_)
    · replace h := h.1 c8
      refine a_iload_n (k := 2) dX11_contact_25 rfl rfl ?_
      refine a_bipush dX11_contact_26 (by decide) (by decide) ?_
      refine a_icmp_ge (tgt := 45) dX11_contact_28 (by decide) (fun c9 => ?_) (fun c9 => ?_)
      · replace h := h.1 c9
        refine a_aload_n (k := 0) dX11_contact_45 rfl rfl ?_
        refine a_iload_n (k := 1) dX11_contact_46 rfl rfl ?_
        refine k_X11_120 rfl dX11_contact_47 (Nat.le_of_ble_eq_true rfl) rfl (Nat.le_of_ble_eq_true rfl) (Nat.le_of_ble_eq_true rfl) (St_ho hg St_399) h (fun x10 n11 μ12 h => ?_)
        refine a_if_eq (tgt := 57) dX11_contact_50 (by decide) (fun c13 => ?_) (fun c13 => ?_)
        · replace h := h.1 c13
          refine a_iconst dX11_contact_57 (by decide) ?_
          exact a_iret dX11_contact_58 rfl (Nat.le_of_ble_eq_true rfl) (Nat.le_of_ble_eq_true rfl) h
        · replace h := h.2 c13
          refine a_iconst dX11_contact_53 (by decide) ?_
          refine a_goto (tgt := 58) dX11_contact_54 (by decide) ?_
          exact a_iret dX11_contact_58 rfl (Nat.le_of_ble_eq_true rfl) (Nat.le_of_ble_eq_true rfl) h
      · replace h := h.2 c9
        refine a_aload_n (k := 0) dX11_contact_31 rfl rfl ?_
        refine gs_X11_7 rfl dX11_contact_32 hg St_399 ?_
        refine a_bipush dX11_contact_35 (by decide) (by decide) ?_
        refine a_iload_n (k := 1) dX11_contact_37 rfl rfl ?_
        obtain ⟨q14, h⟩ := h
        refine a_imul dX11_contact_38 q14 ?_
        refine a_iload_n (k := 2) dX11_contact_39 rfl rfl ?_
        obtain ⟨q15, h⟩ := h
        refine a_iadd dX11_contact_40 q15 ?_
        obtain ⟨q16, h⟩ := h
        refine a_iaload dX11_contact_41 (St_ho hg St_400) q16.1 q16.2 ?_
        refine a_goto (tgt := 58) dX11_contact_42 (by decide) ?_
        exact a_iret dX11_contact_58 rfl (Nat.le_of_ble_eq_true rfl) (Nat.le_of_ble_eq_true rfl) h
    · replace h := h.2 c8
      refine a_iconst dX11_contact_23 (by decide) ?_
      exact a_iret dX11_contact_24 rfl (Nat.le_of_ble_eq_true rfl) (Nat.le_of_ble_eq_true rfl) h
theorem m_X11_at {G : GT} (hg : gx G = FX) {n : Nat} {μ : Mem} {Q : Int → Nat → Mem → Prop} {v0 : Int}  (h : ((inR (20 * v0)) ∧ ((inR (3 + (20 * v0))) ∧ (Q (3 + (20 * v0)) n μ)))) : CI G Y_X11_at [.inl v0] n μ Q := by
  refine e_I (by decide) (Nat.le_of_ble_eq_true rfl) ?_
  show Wa G Y_X11_at (ZI G Y_X11_at Q) 0 0 n μ 0 [(0, .inl v0)] []
  refine a_iconst dX11_at_0 (by decide) ?_
  refine a_bipush dX11_at_1 (by decide) (by decide) ?_
  refine a_iload_n (k := 0) dX11_at_3 rfl rfl ?_
  obtain ⟨q1, h⟩ := h
  refine a_imul dX11_at_4 q1 ?_
  obtain ⟨q2, h⟩ := h
  refine a_iadd dX11_at_5 q2 ?_
  exact a_iret dX11_at_6 rfl (Nat.le_of_ble_eq_true rfl) (Nat.le_of_ble_eq_true rfl) h
theorem m_X11_its {G : GT} (hg : gx G = FX) {n : Nat} {μ : Mem} {Q : Int → Nat → Mem → Prop} {v1 v2 : Int}  (h : (CI G Y_X11_at [.inl v1] n μ (fun (x1 : Int) (n2 : Nat) (μ3 : Mem) => ((inR (x1 + v2)) ∧ (((0 : Int) ≤ x1 + v2 ∧ x1 + v2 < 163) ∧ (Q (μ3 402 (x1 + v2)) n2 μ3)))))) : CI G Y_X11_its [.inr 399, .inl v1, .inl v2] n μ Q := by
  refine e_I (by decide) (Nat.le_of_ble_eq_true rfl) ?_
  show Wa G Y_X11_its (ZI G Y_X11_its Q) 0 0 n μ 0 [(0, .inr 399), (1, .inl v1), (2, .inl v2)] []
  refine a_aload_n (k := 0) dX11_its_0 rfl rfl ?_
  refine gs_X11_16 rfl dX11_its_1 hg St_399 ?_
  refine a_iload_n (k := 1) dX11_its_4 rfl rfl ?_
  refine k_X11_123 rfl dX11_its_5 (Nat.le_of_ble_eq_true rfl) rfl (Nat.le_of_ble_eq_true rfl) (Nat.le_of_ble_eq_true rfl) h (fun x1 n2 μ3 h => ?_)
  refine a_iload_n (k := 2) dX11_its_8 rfl rfl ?_
  obtain ⟨q4, h⟩ := h
  refine a_iadd dX11_its_9 q4 ?_
  obtain ⟨q5, h⟩ := h
  refine a_iaload dX11_its_10 (St_ho hg St_402) q5.1 q5.2 ?_
  exact a_iret dX11_its_11 rfl (Nat.le_of_ble_eq_true rfl) (Nat.le_of_ble_eq_true rfl) h
theorem m_X11_ticks {G : GT} (hg : gx G = FX) {n : Nat} {μ : Mem} {Q : Int → Nat → Mem → Prop} {v1 v2 : Int}  (h : ((inR (6 * v2)) ∧ ((inR ((6 * v2) + 4)) ∧ (((0 : Int) ≤ (6 * v2) + 4 ∧ (6 * v2) + 4 < 48) ∧ ((inR (v1 + (μ 400 ((6 * v2) + 4)))) ∧ ((inR ((v1 + (μ 400 ((6 * v2) + 4))) - 1)) ∧ (((0 : Int) ≤ (v1 + (μ 400 ((6 * v2) + 4))) - 1 ∧ (0 : Int) < μ 400 ((6 * v2) + 4)) ∧ (Q (((v1 + (μ 400 ((6 * v2) + 4))) - 1) / (μ 400 ((6 * v2) + 4))) n μ)))))))) : CI G Y_X11_ticks [.inr 399, .inl v1, .inl v2] n μ Q := by
  refine e_I (by decide) (Nat.le_of_ble_eq_true rfl) ?_
  show Wa G Y_X11_ticks (ZI G Y_X11_ticks Q) 0 0 n μ 0 [(0, .inr 399), (1, .inl v1), (2, .inl v2)] []
  refine a_aload_n (k := 0) dX11_ticks_0 rfl rfl ?_
  refine gs_X11_7 rfl dX11_ticks_1 hg St_399 ?_
  refine a_bipush dX11_ticks_4 (by decide) (by decide) ?_
  refine a_iload_n (k := 2) dX11_ticks_6 rfl rfl ?_
  obtain ⟨q1, h⟩ := h
  refine a_imul dX11_ticks_7 q1 ?_
  refine a_iconst dX11_ticks_8 (by decide) ?_
  obtain ⟨q2, h⟩ := h
  refine a_iadd dX11_ticks_9 q2 ?_
  obtain ⟨q3, h⟩ := h
  refine a_iaload dX11_ticks_10 (St_ho hg St_400) q3.1 q3.2 ?_
  refine b_istore_n (L' := [(0, .inr 399), (1, .inl v1), (2, .inl v2), (3, .inl (μ 400 ((6 * v2) + 4)))]) [1, 2, 3, 0] dX11_ticks_11 rfl (Nat.le_of_ble_eq_true rfl) rfl ?_
  refine a_iload_n (k := 1) dX11_ticks_12 rfl rfl ?_
  refine a_iload_n (k := 3) dX11_ticks_13 rfl rfl ?_
  obtain ⟨q4, h⟩ := h
  refine a_iadd dX11_ticks_14 q4 ?_
  refine a_iconst dX11_ticks_15 (by decide) ?_
  obtain ⟨q5, h⟩ := h
  refine a_isub dX11_ticks_16 q5 ?_
  refine a_iload_n (k := 3) dX11_ticks_17 rfl rfl ?_
  obtain ⟨q6, h⟩ := h
  refine a_idiv dX11_ticks_18 q6.1 q6.2 ?_
  exact a_iret dX11_ticks_19 rfl (Nat.le_of_ble_eq_true rfl) (Nat.le_of_ble_eq_true rfl) h
theorem m_X11_arrival {G : GT} (hg : gx G = FX) {n : Nat} {μ : Mem} {Q : Int → Nat → Mem → Prop} {v1 v2 v3 : Int}  (h : (CI G Y_X11_its [.inr 399, .inl v1, .inl 0] n μ (fun (x1 : Int) (n2 : Nat) (μ3 : Mem) => (CI G Y_X11_ticks [.inr 399, .inl x1, .inl v2] n2 μ3 (fun (x4 : Int) (n5 : Nat) (μ6 : Mem) => ((inR (v3 + x4)) ∧ ((inR (6 * v2)) ∧ ((inR ((6 * v2) + 5)) ∧ (((0 : Int) ≤ (6 * v2) + 5 ∧ (6 * v2) + 5 < 48) ∧ ((inR ((v3 + x4) + (μ6 400 ((6 * v2) + 5)))) ∧ (Q ((v3 + x4) + (μ6 400 ((6 * v2) + 5))) n5 μ6))))))))))) : CI G Y_X11_arrival [.inr 399, .inl v1, .inl v2, .inl v3] n μ Q := by
  refine e_I (by decide) (Nat.le_of_ble_eq_true rfl) ?_
  show Wa G Y_X11_arrival (ZI G Y_X11_arrival Q) 0 0 n μ 0 [(0, .inr 399), (1, .inl v1), (2, .inl v2), (3, .inl v3)] []
  refine a_iload_n (k := 3) dX11_arrival_0 rfl rfl ?_
  refine a_aload_n (k := 0) dX11_arrival_1 rfl rfl ?_
  refine a_aload_n (k := 0) dX11_arrival_2 rfl rfl ?_
  refine a_iload_n (k := 1) dX11_arrival_3 rfl rfl ?_
  refine a_iconst dX11_arrival_4 (by decide) ?_
  refine k_X11_127 rfl dX11_arrival_5 (Nat.le_of_ble_eq_true rfl) rfl (Nat.le_of_ble_eq_true rfl) (Nat.le_of_ble_eq_true rfl) (St_ho hg St_399) h (fun x1 n2 μ3 h => ?_)
  refine a_iload_n (k := 2) dX11_arrival_8 rfl rfl ?_
  refine k_X11_131 rfl dX11_arrival_9 (Nat.le_of_ble_eq_true rfl) rfl (Nat.le_of_ble_eq_true rfl) (Nat.le_of_ble_eq_true rfl) (St_ho hg St_399) h (fun x4 n5 μ6 h => ?_)
  obtain ⟨q7, h⟩ := h
  refine a_iadd dX11_arrival_12 q7 ?_
  refine a_aload_n (k := 0) dX11_arrival_13 rfl rfl ?_
  refine gs_X11_7 rfl dX11_arrival_14 hg St_399 ?_
  refine a_bipush dX11_arrival_17 (by decide) (by decide) ?_
  refine a_iload_n (k := 2) dX11_arrival_19 rfl rfl ?_
  obtain ⟨q8, h⟩ := h
  refine a_imul dX11_arrival_20 q8 ?_
  refine a_iconst dX11_arrival_21 (by decide) ?_
  obtain ⟨q9, h⟩ := h
  refine a_iadd dX11_arrival_22 q9 ?_
  obtain ⟨q10, h⟩ := h
  refine a_iaload dX11_arrival_23 (St_ho hg St_400) q10.1 q10.2 ?_
  obtain ⟨q11, h⟩ := h
  refine a_iadd dX11_arrival_24 q11 ?_
  exact a_iret dX11_arrival_25 rfl (Nat.le_of_ble_eq_true rfl) (Nat.le_of_ble_eq_true rfl) h
theorem m_X11_isOn {G : GT} (hg : gx G = FX) {n : Nat} {μ : Mem} {Q : Int → Nat → Mem → Prop} {v1 : Int}  (h : (CI G Y_X11_its [.inr 399, .inl v1, .inl 7] n μ (fun (x1 : Int) (n2 : Nat) (μ3 : Mem) => ((x1 = (-9) → (Q 0 n2 μ3)) ∧ (¬ (x1 = (-9)) → (Q 1 n2 μ3)))))) : CI G Y_X11_isOn [.inr 399, .inl v1] n μ Q := by
  refine e_I (by decide) (Nat.le_of_ble_eq_true rfl) ?_
  show Wa G Y_X11_isOn (ZI G Y_X11_isOn Q) 0 0 n μ 0 [(0, .inr 399), (1, .inl v1)] []
  refine a_aload_n (k := 0) dX11_isOn_0 rfl rfl ?_
  refine a_iload_n (k := 1) dX11_isOn_1 rfl rfl ?_
  refine a_bipush dX11_isOn_2 (by decide) (by decide) ?_
  refine k_X11_127 rfl dX11_isOn_4 (Nat.le_of_ble_eq_true rfl) rfl (Nat.le_of_ble_eq_true rfl) (Nat.le_of_ble_eq_true rfl) (St_ho hg St_399) h (fun x1 n2 μ3 h => ?_)
  refine a_bipush dX11_isOn_7 (by decide) (by decide) ?_
  refine a_icmp_eq (tgt := 16) dX11_isOn_9 (by decide) (fun c4 => ?_) (fun c4 => ?_)
  · replace h := h.1 c4
    refine a_iconst dX11_isOn_16 (by decide) ?_
    exact a_zret dX11_isOn_17 rfl (Nat.le_of_ble_eq_true rfl) (Nat.le_of_ble_eq_true rfl) (by decide) h
  · replace h := h.2 c4
    refine a_iconst dX11_isOn_12 (by decide) ?_
    refine a_goto (tgt := 17) dX11_isOn_13 (by decide) ?_
    exact a_zret dX11_isOn_17 rfl (Nat.le_of_ble_eq_true rfl) (Nat.le_of_ble_eq_true rfl) (by decide) h
theorem m_X11_leads {G : GT} (hg : gx G = FX) {n : Nat} {μ : Mem} {Q : Int → Nat → Mem → Prop} {v1 : Int}  (h : (CI G Y_X11_its [.inr 399, .inl v1, .inl 9] n μ (fun (x1 : Int) (n2 : Nat) (μ3 : Mem) => ((x1 ≤ 0 → (CI G Y_X11_isOn [.inr 399, .inl v1] n2 μ3 (fun (x5 : Int) (n6 : Nat) (μ7 : Mem) => ((x5 = 0 → (CI G Y_X11_its [.inr 399, .inl v1, .inl 4] n6 μ7 (fun (x9 : Int) (n10 : Nat) (μ11 : Mem) => (Q x9 n10 μ11)))) ∧ (¬ (x5 = 0) → (CI G Y_X11_its [.inr 399, .inl v1, .inl 7] n6 μ7 (fun (x12 : Int) (n13 : Nat) (μ14 : Mem) => ((inR (6 * x12)) ∧ ((inR ((6 * x12) + 1)) ∧ (((0 : Int) ≤ (6 * x12) + 1 ∧ (6 * x12) + 1 < 48) ∧ (Q (μ14 400 ((6 * x12) + 1)) n13 μ14))))))))))) ∧ (¬ (x1 ≤ 0) → (CI G Y_X11_its [.inr 399, .inl v1, .inl 9] n2 μ3 (fun (x18 : Int) (n19 : Nat) (μ20 : Mem) => ((inR (2 * x18)) ∧ ((inR (10 + (2 * x18))) ∧ ((inR ((10 + (2 * x18)) - 2)) ∧ (CI G Y_X11_its [.inr 399, .inl v1, .inl ((10 + (2 * x18)) - 2)] n19 μ20 (fun (x24 : Int) (n25 : Nat) (μ26 : Mem) => ((inR (6 * x24)) ∧ ((inR ((6 * x24) + 1)) ∧ (((0 : Int) ≤ (6 * x24) + 1 ∧ (6 * x24) + 1 < 48) ∧ (Q (μ26 400 ((6 * x24) + 1)) n25 μ26)))))))))))))))) : CI G Y_X11_leads [.inr 399, .inl v1] n μ Q := by
  refine e_I (by decide) (Nat.le_of_ble_eq_true rfl) ?_
  show Wa G Y_X11_leads (ZI G Y_X11_leads Q) 0 0 n μ 0 [(0, .inr 399), (1, .inl v1)] []
  refine a_aload_n (k := 0) dX11_leads_0 rfl rfl ?_
  refine a_iload_n (k := 1) dX11_leads_1 rfl rfl ?_
  refine a_bipush dX11_leads_2 (by decide) (by decide) ?_
  refine k_X11_127 rfl dX11_leads_4 (Nat.le_of_ble_eq_true rfl) rfl (Nat.le_of_ble_eq_true rfl) (Nat.le_of_ble_eq_true rfl) (St_ho hg St_399) h (fun x1 n2 μ3 h => ?_)
  refine a_if_le (tgt := 40) dX11_leads_7 (by decide) (fun c4 => ?_) (fun c4 => ?_)
  · replace h := h.1 c4
    refine a_aload_n (k := 0) dX11_leads_40 rfl rfl ?_
    refine a_iload_n (k := 1) dX11_leads_41 rfl rfl ?_
    refine k_X11_134 rfl dX11_leads_42 (Nat.le_of_ble_eq_true rfl) rfl (Nat.le_of_ble_eq_true rfl) (Nat.le_of_ble_eq_true rfl) (St_ho hg St_399) h (fun x5 n6 μ7 h => ?_)
    refine a_if_eq (tgt := 68) dX11_leads_45 (by decide) (fun c8 => ?_) (fun c8 => ?_)
    · replace h := h.1 c8
      refine a_aload_n (k := 0) dX11_leads_68 rfl rfl ?_
      refine a_iload_n (k := 1) dX11_leads_69 rfl rfl ?_
      refine a_iconst dX11_leads_70 (by decide) ?_
      refine k_X11_127 rfl dX11_leads_71 (Nat.le_of_ble_eq_true rfl) rfl (Nat.le_of_ble_eq_true rfl) (Nat.le_of_ble_eq_true rfl) (St_ho hg St_399) h (fun x9 n10 μ11 h => ?_)
      exact a_iret dX11_leads_74 rfl (Nat.le_of_ble_eq_true rfl) (Nat.le_of_ble_eq_true rfl) h
    · replace h := h.2 c8
      refine a_aload_n (k := 0) dX11_leads_48 rfl rfl ?_
      refine gs_X11_7 rfl dX11_leads_49 hg St_399 ?_
      refine a_bipush dX11_leads_52 (by decide) (by decide) ?_
      refine a_aload_n (k := 0) dX11_leads_54 rfl rfl ?_
      refine a_iload_n (k := 1) dX11_leads_55 rfl rfl ?_
      refine a_bipush dX11_leads_56 (by decide) (by decide) ?_
      refine k_X11_127 rfl dX11_leads_58 (Nat.le_of_ble_eq_true rfl) rfl (Nat.le_of_ble_eq_true rfl) (Nat.le_of_ble_eq_true rfl) (St_ho hg St_399) h (fun x12 n13 μ14 h => ?_)
      obtain ⟨q15, h⟩ := h
      refine a_imul dX11_leads_61 q15 ?_
      refine a_iconst dX11_leads_62 (by decide) ?_
      obtain ⟨q16, h⟩ := h
      refine a_iadd dX11_leads_63 q16 ?_
      obtain ⟨q17, h⟩ := h
      refine a_iaload dX11_leads_64 (St_ho hg St_400) q17.1 q17.2 ?_
      refine a_goto (tgt := 74) dX11_leads_65 (by decide) ?_
      exact a_iret dX11_leads_74 rfl (Nat.le_of_ble_eq_true rfl) (Nat.le_of_ble_eq_true rfl) h
  · replace h := h.2 c4
    refine a_aload_n (k := 0) dX11_leads_10 rfl rfl ?_
    refine gs_X11_7 rfl dX11_leads_11 hg St_399 ?_
    refine a_bipush dX11_leads_14 (by decide) (by decide) ?_
    refine a_aload_n (k := 0) dX11_leads_16 rfl rfl ?_
    refine a_iload_n (k := 1) dX11_leads_17 rfl rfl ?_
    refine a_bipush dX11_leads_18 (by decide) (by decide) ?_
    refine a_iconst dX11_leads_20 (by decide) ?_
    refine a_aload_n (k := 0) dX11_leads_21 rfl rfl ?_
    refine a_iload_n (k := 1) dX11_leads_22 rfl rfl ?_
    refine a_bipush dX11_leads_23 (by decide) (by decide) ?_
    refine k_X11_127 rfl dX11_leads_25 (Nat.le_of_ble_eq_true rfl) rfl (Nat.le_of_ble_eq_true rfl) (Nat.le_of_ble_eq_true rfl) (St_ho hg St_399) h (fun x18 n19 μ20 h => ?_)
    obtain ⟨q21, h⟩ := h
    refine a_imul dX11_leads_28 q21 ?_
    obtain ⟨q22, h⟩ := h
    refine a_iadd dX11_leads_29 q22 ?_
    refine a_iconst dX11_leads_30 (by decide) ?_
    obtain ⟨q23, h⟩ := h
    refine a_isub dX11_leads_31 q23 ?_
    refine k_X11_127 rfl dX11_leads_32 (Nat.le_of_ble_eq_true rfl) rfl (Nat.le_of_ble_eq_true rfl) (Nat.le_of_ble_eq_true rfl) (St_ho hg St_399) h (fun x24 n25 μ26 h => ?_)
    obtain ⟨q27, h⟩ := h
    refine a_imul dX11_leads_35 q27 ?_
    refine a_iconst dX11_leads_36 (by decide) ?_
    obtain ⟨q28, h⟩ := h
    refine a_iadd dX11_leads_37 q28 ?_
    obtain ⟨q29, h⟩ := h
    refine a_iaload dX11_leads_38 (St_ho hg St_400) q29.1 q29.2 ?_
    exact a_iret dX11_leads_39 rfl (Nat.le_of_ble_eq_true rfl) (Nat.le_of_ble_eq_true rfl) h
abbrev B_X11_stateOf_25 (G : GT) (Q : Int → Nat → Mem → Prop) (n : Nat) (μ : Mem) (v1 : Int) : Prop := Wa G Y_X11_stateOf (ZI G Y_X11_stateOf Q) 0 0 n μ 25 [(0, .inr 399), (1, .inl v1)] []
theorem m_X11_stateOf {G : GT} (hg : gx G = FX) {n : Nat} {μ : Mem} {Q : Int → Nat → Mem → Prop} {v1 : Int}  (h : (CI G Y_X11_isOn [.inr 399, .inl v1] n μ (fun (x1 : Int) (n2 : Nat) (μ3 : Mem) => ((¬ (x1 = 0) → (B_X11_stateOf_25 G Q n2 μ3 v1)) ∧ (x1 = 0 → (CI G Y_X11_its [.inr 399, .inl v1, .inl 4] n2 μ3 (fun (x5 : Int) (n6 : Nat) (μ7 : Mem) => (CI G Y_X11_its [.inr 399, .inl v1, .inl 1] n6 μ7 (fun (x8 : Int) (n9 : Nat) (μ10 : Mem) => ((¬ (x5 = x8) → (B_X11_stateOf_25 G Q n9 μ10 v1)) ∧ (x5 = x8 → (Q 2 n9 μ10)))))))))))) : CI G Y_X11_stateOf [.inr 399, .inl v1] n μ Q := by
  refine e_I (by decide) (Nat.le_of_ble_eq_true rfl) ?_
  show Wa G Y_X11_stateOf (ZI G Y_X11_stateOf Q) 0 0 n μ 0 [(0, .inr 399), (1, .inl v1)] []
  refine a_aload_n (k := 0) dX11_stateOf_0 rfl rfl ?_
  refine a_iload_n (k := 1) dX11_stateOf_1 rfl rfl ?_
  refine k_X11_134 rfl dX11_stateOf_2 (Nat.le_of_ble_eq_true rfl) rfl (Nat.le_of_ble_eq_true rfl) (Nat.le_of_ble_eq_true rfl) (St_ho hg St_399) h (fun x1 n2 μ3 h => ?_)
  refine a_if_ne (tgt := 25) dX11_stateOf_5 (by decide) (fun c4 => ?_) (fun c4 => ?_)
  · replace h := h.1 c4
    exact h
  · replace h := h.2 c4
    refine a_aload_n (k := 0) dX11_stateOf_8 rfl rfl ?_
    refine a_iload_n (k := 1) dX11_stateOf_9 rfl rfl ?_
    refine a_iconst dX11_stateOf_10 (by decide) ?_
    refine k_X11_127 rfl dX11_stateOf_11 (Nat.le_of_ble_eq_true rfl) rfl (Nat.le_of_ble_eq_true rfl) (Nat.le_of_ble_eq_true rfl) (St_ho hg St_399) h (fun x5 n6 μ7 h => ?_)
    refine a_aload_n (k := 0) dX11_stateOf_14 rfl rfl ?_
    refine a_iload_n (k := 1) dX11_stateOf_15 rfl rfl ?_
    refine a_iconst dX11_stateOf_16 (by decide) ?_
    refine k_X11_127 rfl dX11_stateOf_17 (Nat.le_of_ble_eq_true rfl) rfl (Nat.le_of_ble_eq_true rfl) (Nat.le_of_ble_eq_true rfl) (St_ho hg St_399) h (fun x8 n9 μ10 h => ?_)
    refine a_icmp_ne (tgt := 25) dX11_stateOf_20 (by decide) (fun c11 => ?_) (fun c11 => ?_)
    · replace h := h.1 c11
      exact h
    · replace h := h.2 c11
      refine a_iconst dX11_stateOf_23 (by decide) ?_
      exact a_iret dX11_stateOf_24 rfl (Nat.le_of_ble_eq_true rfl) (Nat.le_of_ble_eq_true rfl) h
theorem b_X11_stateOf_25 {G : GT} (hg : gx G = FX) {n : Nat} {μ : Mem} {Q : Int → Nat → Mem → Prop} {v1 : Int}  (h : (CI G Y_X11_its [.inr 399, .inl v1, .inl 5] n μ (fun (x1 : Int) (n2 : Nat) (μ3 : Mem) => ((¬ (x1 = 1) → (CI G Y_X11_its [.inr 399, .inl v1, .inl 2] n2 μ3 (fun (x5 : Int) (n6 : Nat) (μ7 : Mem) => (((μ3 402 0) ≤ x5 → (CI G Y_X11_leads [.inr 399, .inl v1] n6 μ7 (fun (x9 : Int) (n10 : Nat) (μ11 : Mem) => (CI G Y_X11_its [.inr 399, .inl v1, .inl 1] n10 μ11 (fun (x12 : Int) (n13 : Nat) (μ14 : Mem) => ((¬ (x9 = x12) → (Q 0 n13 μ14)) ∧ (x9 = x12 → (Q 1 n13 μ14)))))))) ∧ (¬ ((μ3 402 0) ≤ x5) → (Q 3 n6 μ7)))))) ∧ (x1 = 1 → (Q 4 n2 μ3)))))) : B_X11_stateOf_25 G Q n μ v1 := by
  show Wa G Y_X11_stateOf (ZI G Y_X11_stateOf Q) 0 0 n μ 25 [(0, .inr 399), (1, .inl v1)] []
  refine a_aload_n (k := 0) dX11_stateOf_25 rfl rfl ?_
  refine a_iload_n (k := 1) dX11_stateOf_26 rfl rfl ?_
  refine a_iconst dX11_stateOf_27 (by decide) ?_
  refine k_X11_127 rfl dX11_stateOf_28 (Nat.le_of_ble_eq_true rfl) rfl (Nat.le_of_ble_eq_true rfl) (Nat.le_of_ble_eq_true rfl) (St_ho hg St_399) h (fun x1 n2 μ3 h => ?_)
  refine a_iconst dX11_stateOf_31 (by decide) ?_
  refine a_icmp_ne (tgt := 37) dX11_stateOf_32 (by decide) (fun c4 => ?_) (fun c4 => ?_)
  · replace h := h.1 c4
    refine a_aload_n (k := 0) dX11_stateOf_37 rfl rfl ?_
    refine gs_X11_16 rfl dX11_stateOf_38 hg St_399 ?_
    refine a_iconst dX11_stateOf_41 (by decide) ?_
    refine a_iaload dX11_stateOf_42 (St_ho hg St_402) (by decide) (by decide) ?_
    refine a_aload_n (k := 0) dX11_stateOf_43 rfl rfl ?_
    refine a_iload_n (k := 1) dX11_stateOf_44 rfl rfl ?_
    refine a_iconst dX11_stateOf_45 (by decide) ?_
    refine k_X11_127 rfl dX11_stateOf_46 (Nat.le_of_ble_eq_true rfl) rfl (Nat.le_of_ble_eq_true rfl) (Nat.le_of_ble_eq_true rfl) (St_ho hg St_399) h (fun x5 n6 μ7 h => ?_)
    refine a_icmp_le (tgt := 54) dX11_stateOf_49 (by decide) (fun c8 => ?_) (fun c8 => ?_)
    · replace h := h.1 c8
      refine a_aload_n (k := 0) dX11_stateOf_54 rfl rfl ?_
      refine a_iload_n (k := 1) dX11_stateOf_55 rfl rfl ?_
      refine k_X11_137 rfl dX11_stateOf_56 (Nat.le_of_ble_eq_true rfl) rfl (Nat.le_of_ble_eq_true rfl) (Nat.le_of_ble_eq_true rfl) (St_ho hg St_399) h (fun x9 n10 μ11 h => ?_)
      refine a_aload_n (k := 0) dX11_stateOf_59 rfl rfl ?_
      refine a_iload_n (k := 1) dX11_stateOf_60 rfl rfl ?_
      refine a_iconst dX11_stateOf_61 (by decide) ?_
      refine k_X11_127 rfl dX11_stateOf_62 (Nat.le_of_ble_eq_true rfl) rfl (Nat.le_of_ble_eq_true rfl) (Nat.le_of_ble_eq_true rfl) (St_ho hg St_399) h (fun x12 n13 μ14 h => ?_)
      refine a_icmp_ne (tgt := 72) dX11_stateOf_65 (by decide) (fun c15 => ?_) (fun c15 => ?_)
      · replace h := h.1 c15
        refine a_iconst dX11_stateOf_72 (by decide) ?_
        exact a_iret dX11_stateOf_73 rfl (Nat.le_of_ble_eq_true rfl) (Nat.le_of_ble_eq_true rfl) h
      · replace h := h.2 c15
        refine a_iconst dX11_stateOf_68 (by decide) ?_
        refine a_goto (tgt := 73) dX11_stateOf_69 (by decide) ?_
        exact a_iret dX11_stateOf_73 rfl (Nat.le_of_ble_eq_true rfl) (Nat.le_of_ble_eq_true rfl) h
    · replace h := h.2 c8
      refine a_iconst dX11_stateOf_52 (by decide) ?_
      exact a_iret dX11_stateOf_53 rfl (Nat.le_of_ble_eq_true rfl) (Nat.le_of_ble_eq_true rfl) h
  · replace h := h.2 c4
    refine a_iconst dX11_stateOf_35 (by decide) ?_
    exact a_iret dX11_stateOf_36 rfl (Nat.le_of_ble_eq_true rfl) (Nat.le_of_ble_eq_true rfl) h
abbrev B_X11_countOf_4 (G : GT) (Q : Int → Nat → Mem → Prop) (n : Nat) (μ : Mem) (v1 : Int) (v2 : Int) (v3 : Int) : Prop := Wa G Y_X11_countOf (ZI G Y_X11_countOf Q) 0 0 n μ 4 [(0, .inr 399), (1, .inl v1), (2, .inl v2), (3, .inl v3)] []
theorem m_X11_countOf {G : GT} (hg : gx G = FX) {n : Nat} {μ : Mem} {Q : Int → Nat → Mem → Prop} {v1 : Int}  (h : (B_X11_countOf_4 G Q n μ v1 0 0)) : CI G Y_X11_countOf [.inr 399, .inl v1] n μ Q := by
  refine e_I (by decide) (Nat.le_of_ble_eq_true rfl) ?_
  show Wa G Y_X11_countOf (ZI G Y_X11_countOf Q) 0 0 n μ 0 [(0, .inr 399), (1, .inl v1)] []
  refine a_iconst dX11_countOf_0 (by decide) ?_
  refine b_istore_n (L' := [(0, .inr 399), (1, .inl v1), (2, .inl 0)]) [1, 2, 0] dX11_countOf_1 rfl (Nat.le_of_ble_eq_true rfl) rfl ?_
  refine a_iconst dX11_countOf_2 (by decide) ?_
  refine b_istore_n (L' := [(0, .inr 399), (1, .inl v1), (2, .inl 0), (3, .inl 0)]) [1, 2, 3, 0] dX11_countOf_3 rfl (Nat.le_of_ble_eq_true rfl) rfl ?_
  exact h
theorem b_X11_countOf_4 {G : GT} (hg : gx G = FX) {n : Nat} {μ : Mem} {Q : Int → Nat → Mem → Prop} {v1 v2 v3 : Int}  (h : (((μ 402 2) ≤ v3 → (Q v2 n μ)) ∧ (¬ ((μ 402 2) ≤ v3) → (CI G Y_X11_stateOf [.inr 399, .inl v3] n μ (fun (x2 : Int) (n3 : Nat) (μ4 : Mem) => ((¬ (x2 = v1) → ((inR (v2 + 0)) ∧ ((inR (v3 + 1)) ∧ (B_X11_countOf_4 G Q n3 μ4 v1 (v2 + 0) (v3 + 1))))) ∧ (x2 = v1 → ((inR (v2 + 1)) ∧ ((inR (v3 + 1)) ∧ (B_X11_countOf_4 G Q n3 μ4 v1 (v2 + 1) (v3 + 1))))))))))) : B_X11_countOf_4 G Q n μ v1 v2 v3 := by
  show Wa G Y_X11_countOf (ZI G Y_X11_countOf Q) 0 0 n μ 4 [(0, .inr 399), (1, .inl v1), (2, .inl v2), (3, .inl v3)] []
  refine a_iload_n (k := 3) dX11_countOf_4 rfl rfl ?_
  refine a_aload_n (k := 0) dX11_countOf_5 rfl rfl ?_
  refine gs_X11_16 rfl dX11_countOf_6 hg St_399 ?_
  refine a_iconst dX11_countOf_9 (by decide) ?_
  refine a_iaload dX11_countOf_10 (St_ho hg St_402) (by decide) (by decide) ?_
  refine a_icmp_ge (tgt := 37) dX11_countOf_11 (by decide) (fun c1 => ?_) (fun c1 => ?_)
  · replace h := h.1 c1
    refine a_iload_n (k := 2) dX11_countOf_37 rfl rfl ?_
    exact a_iret dX11_countOf_38 rfl (Nat.le_of_ble_eq_true rfl) (Nat.le_of_ble_eq_true rfl) h
  · replace h := h.2 c1
    refine a_iload_n (k := 2) dX11_countOf_14 rfl rfl ?_
    refine a_aload_n (k := 0) dX11_countOf_15 rfl rfl ?_
    refine a_iload_n (k := 3) dX11_countOf_16 rfl rfl ?_
    refine k_X11_140 rfl dX11_countOf_17 (Nat.le_of_ble_eq_true rfl) rfl (Nat.le_of_ble_eq_true rfl) (Nat.le_of_ble_eq_true rfl) (St_ho hg St_399) h (fun x2 n3 μ4 h => ?_)
    refine a_iload_n (k := 1) dX11_countOf_20 rfl rfl ?_
    refine a_icmp_ne (tgt := 28) dX11_countOf_21 (by decide) (fun c5 => ?_) (fun c5 => ?_)
    · replace h := h.1 c5
      refine a_iconst dX11_countOf_28 (by decide) ?_
      obtain ⟨q6, h⟩ := h
      refine a_iadd dX11_countOf_29 q6 ?_
      refine b_istore_n (L' := [(0, .inr 399), (1, .inl v1), (2, .inl (v2 + 0)), (3, .inl v3)]) [1, 2, 0, 3] dX11_countOf_30 rfl (Nat.le_of_ble_eq_true rfl) rfl ?_
      obtain ⟨q7, h⟩ := h
      refine b_iinc (L' := [(0, .inr 399), (1, .inl v1), (2, .inl (v2 + 0)), (3, .inl (v3 + 1))]) (k := 3) [1, 2, 3, 0] dX11_countOf_31 rfl q7 (Nat.le_of_ble_eq_true rfl) rfl ?_
      refine a_goto (tgt := 4) dX11_countOf_34 (by decide) ?_
      exact h
    · replace h := h.2 c5
      refine a_iconst dX11_countOf_24 (by decide) ?_
      refine a_goto (tgt := 29) dX11_countOf_25 (by decide) ?_
      obtain ⟨q8, h⟩ := h
      refine a_iadd dX11_countOf_29 q8 ?_
      refine b_istore_n (L' := [(0, .inr 399), (1, .inl v1), (2, .inl (v2 + 1)), (3, .inl v3)]) [1, 2, 0, 3] dX11_countOf_30 rfl (Nat.le_of_ble_eq_true rfl) rfl ?_
      obtain ⟨q9, h⟩ := h
      refine b_iinc (L' := [(0, .inr 399), (1, .inl v1), (2, .inl (v2 + 1)), (3, .inl (v3 + 1))]) (k := 3) [1, 2, 3, 0] dX11_countOf_31 rfl q9 (Nat.le_of_ble_eq_true rfl) rfl ?_
      refine a_goto (tgt := 4) dX11_countOf_34 (by decide) ?_
      exact h
abbrev B_X11_marks_3 (G : GT) (Q : Nat → Mem → Prop) (n : Nat) (μ : Mem) (v1 : Int) (v2 : Int) (v3 : Int) (v4 : Int) : Prop := Wa G Y_X11_marks (ZV G Y_X11_marks Q) 0 0 n μ 3 [(0, .inr 399), (1, .inl v1), (2, .inl v2), (3, .inl v3), (4, .inl v4)] []
theorem m_X11_marks {G : GT} (hg : gx G = FX) {n : Nat} {μ : Mem} {Q : Nat → Mem → Prop} {v1 v2 v3 : Int}  (h : (B_X11_marks_3 G Q n μ v1 v2 v3 v3)) : CV G Y_X11_marks [.inr 399, .inl v1, .inl v2, .inl v3] n μ Q := by
  refine e_V (by decide) (Nat.le_of_ble_eq_true rfl) ?_
  show Wa G Y_X11_marks (ZV G Y_X11_marks Q) 0 0 n μ 0 [(0, .inr 399), (1, .inl v1), (2, .inl v2), (3, .inl v3)] []
  refine a_iload_n (k := 3) dX11_marks_0 rfl rfl ?_
  refine b_istore (L' := [(0, .inr 399), (1, .inl v1), (2, .inl v2), (3, .inl v3), (4, .inl v3)]) [1, 2, 3, 4, 0] dX11_marks_1 (Nat.le_of_ble_eq_true rfl) rfl ?_
  exact h
theorem b_X11_marks_3 {G : GT} (hg : gx G = FX) {n : Nat} {μ : Mem} {Q : Nat → Mem → Prop} {v1 v2 v3 v4 : Int}  (h : (CI G Y_X11_ticks [.inr 399, .inl v1, .inl v2] n μ (fun (x1 : Int) (n2 : Nat) (μ3 : Mem) => ((inR (v3 + x1)) ∧ (((v3 + x1) ≤ v4 → (Q n2 μ3)) ∧ (¬ ((v3 + x1) ≤ v4) → ((inR (100 * v2)) ∧ ((inR ((100 * v2) + v4)) ∧ (((0 : Int) ≤ (100 * v2) + v4 ∧ (100 * v2) + v4 < 800) ∧ ((inR (v4 + 1)) ∧ (B_X11_marks_3 G Q n2 (up μ3 411 ((100 * v2) + v4) 1) v1 v2 v3 (v4 + 1)))))))))))) : B_X11_marks_3 G Q n μ v1 v2 v3 v4 := by
  show Wa G Y_X11_marks (ZV G Y_X11_marks Q) 0 0 n μ 3 [(0, .inr 399), (1, .inl v1), (2, .inl v2), (3, .inl v3), (4, .inl v4)] []
  refine a_iload (k := 4) dX11_marks_3 rfl ?_
  refine a_iload_n (k := 3) dX11_marks_5 rfl rfl ?_
  refine a_aload_n (k := 0) dX11_marks_6 rfl rfl ?_
  refine a_iload_n (k := 1) dX11_marks_7 rfl rfl ?_
  refine a_iload_n (k := 2) dX11_marks_8 rfl rfl ?_
  refine k_X11_131 rfl dX11_marks_9 (Nat.le_of_ble_eq_true rfl) rfl (Nat.le_of_ble_eq_true rfl) (Nat.le_of_ble_eq_true rfl) (St_ho hg St_399) h (fun x1 n2 μ3 h => ?_)
  obtain ⟨q4, h⟩ := h
  refine a_iadd dX11_marks_12 q4 ?_
  refine a_icmp_ge (tgt := 35) dX11_marks_13 (by decide) (fun c5 => ?_) (fun c5 => ?_)
  · replace h := h.1 c5
    exact a_ret dX11_marks_35 rfl (Nat.le_of_ble_eq_true rfl) (Nat.le_of_ble_eq_true rfl) h
  · replace h := h.2 c5
    refine a_aload_n (k := 0) dX11_marks_16 rfl rfl ?_
    refine gs_X11_44 rfl dX11_marks_17 hg St_399 ?_
    refine a_bipush dX11_marks_20 (by decide) (by decide) ?_
    refine a_iload_n (k := 2) dX11_marks_22 rfl rfl ?_
    obtain ⟨q6, h⟩ := h
    refine a_imul dX11_marks_23 q6 ?_
    refine a_iload (k := 4) dX11_marks_24 rfl ?_
    obtain ⟨q7, h⟩ := h
    refine a_iadd dX11_marks_26 q7 ?_
    refine a_iconst dX11_marks_27 (by decide) ?_
    obtain ⟨q8, h⟩ := h
    refine a_zastore dX11_marks_28 (St_ho hg St_411) q8.1 q8.2 (by decide) (FX_put hg St_411 rfl) ?_
    obtain ⟨q9, h⟩ := h
    refine b_iinc (L' := [(0, .inr 399), (1, .inl v1), (2, .inl v2), (3, .inl v3), (4, .inl (v4 + 1))]) (k := 4) [1, 2, 3, 4, 0] dX11_marks_29 rfl q9 (Nat.le_of_ble_eq_true rfl) rfl ?_
    refine a_goto (tgt := 3) dX11_marks_32 (by decide) ?_
    exact h
abbrev B_X11_laysTaken_2 (G : GT) (Q : Nat → Mem → Prop) (n : Nat) (μ : Mem) (v1 : Int) (v2 : Int) (v3 : Int) : Prop := Wa G Y_X11_laysTaken (ZV G Y_X11_laysTaken Q) 0 0 n μ 2 [(0, .inr 399), (1, .inl v1), (2, .inl v2), (3, .inl v3)] []
abbrev B_X11_laysTaken_24 (G : GT) (Q : Nat → Mem → Prop) (n : Nat) (μ : Mem) (v1 : Int) (v2 : Int) (v3 : Int) : Prop := Wa G Y_X11_laysTaken (ZV G Y_X11_laysTaken Q) 0 0 n μ 24 [(0, .inr 399), (1, .inl v1), (2, .inl v2), (3, .inl v3)] []
abbrev B_X11_laysTaken_66 (G : GT) (Q : Nat → Mem → Prop) (n : Nat) (μ : Mem) (v1 : Int) (v2 : Int) (v3 : Int) : Prop := Wa G Y_X11_laysTaken (ZV G Y_X11_laysTaken Q) 0 0 n μ 66 [(0, .inr 399), (1, .inl v1), (2, .inl v2), (3, .inl v3)] []
abbrev B_X11_laysTaken_69 (G : GT) (Q : Nat → Mem → Prop) (n : Nat) (μ : Mem) (v1 : Int) (v2 : Int) (v3 : Int) (v4 : Int) : Prop := Wa G Y_X11_laysTaken (ZV G Y_X11_laysTaken Q) 0 0 n μ 69 [(0, .inr 399), (1, .inl v1), (2, .inl v2), (3, .inl v3), (4, .inl v4)] []
theorem m_X11_laysTaken {G : GT} (hg : gx G = FX) {n : Nat} {μ : Mem} {Q : Nat → Mem → Prop} {v1 v2 : Int}  (h : (B_X11_laysTaken_2 G Q n μ v1 v2 0)) : CV G Y_X11_laysTaken [.inr 399, .inl v1, .inl v2] n μ Q := by
  refine e_V (by decide) (Nat.le_of_ble_eq_true rfl) ?_
  show Wa G Y_X11_laysTaken (ZV G Y_X11_laysTaken Q) 0 0 n μ 0 [(0, .inr 399), (1, .inl v1), (2, .inl v2)] []
  refine a_iconst dX11_laysTaken_0 (by decide) ?_
  refine b_istore_n (L' := [(0, .inr 399), (1, .inl v1), (2, .inl v2), (3, .inl 0)]) [1, 2, 3, 0] dX11_laysTaken_1 rfl (Nat.le_of_ble_eq_true rfl) rfl ?_
  exact h
theorem b_X11_laysTaken_2 {G : GT} (hg : gx G = FX) {n : Nat} {μ : Mem} {Q : Nat → Mem → Prop} {v1 v2 v3 : Int}  (h : ((800 ≤ v3 → (B_X11_laysTaken_24 G Q n μ v1 v2 0)) ∧ (¬ (800 ≤ v3) → (((0 : Int) ≤ v3 ∧ v3 < 800) ∧ ((inR (v3 + 1)) ∧ (B_X11_laysTaken_2 G Q n (up μ 411 v3 0) v1 v2 (v3 + 1))))))) : B_X11_laysTaken_2 G Q n μ v1 v2 v3 := by
  show Wa G Y_X11_laysTaken (ZV G Y_X11_laysTaken Q) 0 0 n μ 2 [(0, .inr 399), (1, .inl v1), (2, .inl v2), (3, .inl v3)] []
  refine a_iload_n (k := 3) dX11_laysTaken_2 rfl rfl ?_
  refine a_sipush dX11_laysTaken_3 (by decide) (by decide) ?_
  refine a_icmp_ge (tgt := 22) dX11_laysTaken_6 (by decide) (fun c1 => ?_) (fun c1 => ?_)
  · replace h := h.1 c1
    refine a_iconst dX11_laysTaken_22 (by decide) ?_
    refine b_istore_n (L' := [(0, .inr 399), (1, .inl v1), (2, .inl v2), (3, .inl 0)]) [1, 2, 3, 0] dX11_laysTaken_23 rfl (Nat.le_of_ble_eq_true rfl) rfl ?_
    exact h
  · replace h := h.2 c1
    refine a_aload_n (k := 0) dX11_laysTaken_9 rfl rfl ?_
    refine gs_X11_44 rfl dX11_laysTaken_10 hg St_399 ?_
    refine a_iload_n (k := 3) dX11_laysTaken_13 rfl rfl ?_
    refine a_iconst dX11_laysTaken_14 (by decide) ?_
    obtain ⟨q2, h⟩ := h
    refine a_zastore dX11_laysTaken_15 (St_ho hg St_411) q2.1 q2.2 (by decide) (FX_put hg St_411 rfl) ?_
    obtain ⟨q3, h⟩ := h
    refine b_iinc (L' := [(0, .inr 399), (1, .inl v1), (2, .inl v2), (3, .inl (v3 + 1))]) (k := 3) [1, 2, 3, 0] dX11_laysTaken_16 rfl q3 (Nat.le_of_ble_eq_true rfl) rfl ?_
    refine a_goto (tgt := 2) dX11_laysTaken_19 (by decide) ?_
    exact h
theorem b_X11_laysTaken_24 {G : GT} (hg : gx G = FX) {n : Nat} {μ : Mem} {Q : Nat → Mem → Prop} {v1 v2 v3 : Int}  (h : (((μ 402 2) ≤ v3 → (Q n μ)) ∧ (¬ ((μ 402 2) ≤ v3) → (CI G Y_X11_isOn [.inr 399, .inl v3] n μ (fun (x2 : Int) (n3 : Nat) (μ4 : Mem) => ((x2 = 0 → (B_X11_laysTaken_66 G Q n3 μ4 v1 v2 v3)) ∧ (¬ (x2 = 0) → (CI G Y_X11_its [.inr 399, .inl v3, .inl 0] n3 μ4 (fun (x6 : Int) (n7 : Nat) (μ8 : Mem) => (CI G Y_X11_its [.inr 399, .inl v3, .inl 7] n7 μ8 (fun (x9 : Int) (n10 : Nat) (μ11 : Mem) => (CI G Y_X11_its [.inr 399, .inl v3, .inl 8] n10 μ11 (fun (x12 : Int) (n13 : Nat) (μ14 : Mem) => (CV G Y_X11_marks [.inr 399, .inl x6, .inl x9, .inl x12] n13 μ14 (fun (n16 : Nat) (μ17 : Mem) => (B_X11_laysTaken_66 G Q n16 μ17 v1 v2 v3)))))))))))))))) : B_X11_laysTaken_24 G Q n μ v1 v2 v3 := by
  show Wa G Y_X11_laysTaken (ZV G Y_X11_laysTaken Q) 0 0 n μ 24 [(0, .inr 399), (1, .inl v1), (2, .inl v2), (3, .inl v3)] []
  refine a_iload_n (k := 3) dX11_laysTaken_24 rfl rfl ?_
  refine a_aload_n (k := 0) dX11_laysTaken_25 rfl rfl ?_
  refine gs_X11_16 rfl dX11_laysTaken_26 hg St_399 ?_
  refine a_iconst dX11_laysTaken_29 (by decide) ?_
  refine a_iaload dX11_laysTaken_30 (St_ho hg St_402) (by decide) (by decide) ?_
  refine a_icmp_ge (tgt := 144) dX11_laysTaken_31 (by decide) (fun c1 => ?_) (fun c1 => ?_)
  · replace h := h.1 c1
    exact a_ret dX11_laysTaken_144 rfl (Nat.le_of_ble_eq_true rfl) (Nat.le_of_ble_eq_true rfl) h
  · replace h := h.2 c1
    refine a_aload_n (k := 0) dX11_laysTaken_34 rfl rfl ?_
    refine a_iload_n (k := 3) dX11_laysTaken_35 rfl rfl ?_
    refine k_X11_134 rfl dX11_laysTaken_36 (Nat.le_of_ble_eq_true rfl) rfl (Nat.le_of_ble_eq_true rfl) (Nat.le_of_ble_eq_true rfl) (St_ho hg St_399) h (fun x2 n3 μ4 h => ?_)
    refine a_if_eq (tgt := 66) dX11_laysTaken_39 (by decide) (fun c5 => ?_) (fun c5 => ?_)
    · replace h := h.1 c5
      exact h
    · replace h := h.2 c5
      refine a_aload_n (k := 0) dX11_laysTaken_42 rfl rfl ?_
      refine a_aload_n (k := 0) dX11_laysTaken_43 rfl rfl ?_
      refine a_iload_n (k := 3) dX11_laysTaken_44 rfl rfl ?_
      refine a_iconst dX11_laysTaken_45 (by decide) ?_
      refine k_X11_127 rfl dX11_laysTaken_46 (Nat.le_of_ble_eq_true rfl) rfl (Nat.le_of_ble_eq_true rfl) (Nat.le_of_ble_eq_true rfl) (St_ho hg St_399) h (fun x6 n7 μ8 h => ?_)
      refine a_aload_n (k := 0) dX11_laysTaken_49 rfl rfl ?_
      refine a_iload_n (k := 3) dX11_laysTaken_50 rfl rfl ?_
      refine a_bipush dX11_laysTaken_51 (by decide) (by decide) ?_
      refine k_X11_127 rfl dX11_laysTaken_53 (Nat.le_of_ble_eq_true rfl) rfl (Nat.le_of_ble_eq_true rfl) (Nat.le_of_ble_eq_true rfl) (St_ho hg St_399) h (fun x9 n10 μ11 h => ?_)
      refine a_aload_n (k := 0) dX11_laysTaken_56 rfl rfl ?_
      refine a_iload_n (k := 3) dX11_laysTaken_57 rfl rfl ?_
      refine a_bipush dX11_laysTaken_58 (by decide) (by decide) ?_
      refine k_X11_127 rfl dX11_laysTaken_60 (Nat.le_of_ble_eq_true rfl) rfl (Nat.le_of_ble_eq_true rfl) (Nat.le_of_ble_eq_true rfl) (St_ho hg St_399) h (fun x12 n13 μ14 h => ?_)
      refine k_X11_143 rfl dX11_laysTaken_63 (Nat.le_of_ble_eq_true rfl) rfl (Nat.le_of_ble_eq_true rfl) (Nat.le_of_ble_eq_true rfl) (St_ho hg St_399) h (fun n16 μ17 h => ?_)
      exact h
theorem b_X11_laysTaken_66 {G : GT} (hg : gx G = FX) {n : Nat} {μ : Mem} {Q : Nat → Mem → Prop} {v1 v2 v3 : Int}  (h : (B_X11_laysTaken_69 G Q n μ v1 v2 v3 0)) : B_X11_laysTaken_66 G Q n μ v1 v2 v3 := by
  show Wa G Y_X11_laysTaken (ZV G Y_X11_laysTaken Q) 0 0 n μ 66 [(0, .inr 399), (1, .inl v1), (2, .inl v2), (3, .inl v3)] []
  refine a_iconst dX11_laysTaken_66 (by decide) ?_
  refine b_istore (L' := [(0, .inr 399), (1, .inl v1), (2, .inl v2), (3, .inl v3), (4, .inl 0)]) [1, 2, 3, 4, 0] dX11_laysTaken_67 (Nat.le_of_ble_eq_true rfl) rfl ?_
  exact h
theorem b_X11_laysTaken_69 {G : GT} (hg : gx G = FX) {n : Nat} {μ : Mem} {Q : Nat → Mem → Prop} {v1 v2 v3 v4 : Int}  (h : (CI G Y_X11_its [.inr 399, .inl v3, .inl 9] n μ (fun (x1 : Int) (n2 : Nat) (μ3 : Mem) => ((x1 ≤ v4 → ((inR (v3 + 1)) ∧ (B_X11_laysTaken_24 G Q n2 μ3 v1 v2 (v3 + 1)))) ∧ (¬ (x1 ≤ v4) → ((v3 = v1 → ((inR (v3 + 1)) ∧ (B_X11_laysTaken_24 G Q n2 μ3 v1 v2 (v3 + 1)))) ∧ (¬ (v3 = v1) → (CI G Y_X11_its [.inr 399, .inl v3, .inl 3] n2 μ3 (fun (x8 : Int) (n9 : Nat) (μ10 : Mem) => ((x8 < v2 → ((inR (v3 + 1)) ∧ (B_X11_laysTaken_24 G Q n9 μ10 v1 v2 (v3 + 1)))) ∧ (¬ (x8 < v2) → (CI G Y_X11_its [.inr 399, .inl v3, .inl 0] n9 μ10 (fun (x13 : Int) (n14 : Nat) (μ15 : Mem) => ((inR (2 * v4)) ∧ ((inR (10 + (2 * v4))) ∧ (CI G Y_X11_its [.inr 399, .inl v3, .inl (10 + (2 * v4))] n14 μ15 (fun (x18 : Int) (n19 : Nat) (μ20 : Mem) => ((inR (2 * v4)) ∧ ((inR (10 + (2 * v4))) ∧ ((inR ((10 + (2 * v4)) + 1)) ∧ (CI G Y_X11_its [.inr 399, .inl v3, .inl ((10 + (2 * v4)) + 1)] n19 μ20 (fun (x24 : Int) (n25 : Nat) (μ26 : Mem) => (CV G Y_X11_marks [.inr 399, .inl x13, .inl x18, .inl x24] n25 μ26 (fun (n28 : Nat) (μ29 : Mem) => ((inR (v4 + 1)) ∧ (B_X11_laysTaken_69 G Q n28 μ29 v1 v2 v3 (v4 + 1))))))))))))))))))))))))))) : B_X11_laysTaken_69 G Q n μ v1 v2 v3 v4 := by
  show Wa G Y_X11_laysTaken (ZV G Y_X11_laysTaken Q) 0 0 n μ 69 [(0, .inr 399), (1, .inl v1), (2, .inl v2), (3, .inl v3), (4, .inl v4)] []
  refine a_iload (k := 4) dX11_laysTaken_69 rfl ?_
  refine a_aload_n (k := 0) dX11_laysTaken_71 rfl rfl ?_
  refine a_iload_n (k := 3) dX11_laysTaken_72 rfl rfl ?_
  refine a_bipush dX11_laysTaken_73 (by decide) (by decide) ?_
  refine k_X11_127 rfl dX11_laysTaken_75 (Nat.le_of_ble_eq_true rfl) rfl (Nat.le_of_ble_eq_true rfl) (Nat.le_of_ble_eq_true rfl) (St_ho hg St_399) h (fun x1 n2 μ3 h => ?_)
  refine a_icmp_ge (tgt := 138) dX11_laysTaken_78 (by decide) (fun c4 => ?_) (fun c4 => ?_)
  · replace h := h.1 c4
    obtain ⟨q5, h⟩ := h
    refine b_iinc (L' := [(0, .inr 399), (1, .inl v1), (2, .inl v2), (3, .inl (v3 + 1)), (4, .inl v4)]) (k := 3) [1, 2, 3, 0, 4] dX11_laysTaken_138 rfl q5 (Nat.le_of_ble_eq_true rfl) rfl ?_
    refine a_goto (tgt := 24) dX11_laysTaken_141 (by decide) ?_
    refine a_sub [0, 1, 2, 3] rfl ?_
    exact h
  · replace h := h.2 c4
    refine a_iload_n (k := 3) dX11_laysTaken_81 rfl rfl ?_
    refine a_iload_n (k := 1) dX11_laysTaken_82 rfl rfl ?_
    refine a_icmp_eq (tgt := 138) dX11_laysTaken_83 (by decide) (fun c6 => ?_) (fun c6 => ?_)
    · replace h := h.1 c6
      obtain ⟨q7, h⟩ := h
      refine b_iinc (L' := [(0, .inr 399), (1, .inl v1), (2, .inl v2), (3, .inl (v3 + 1)), (4, .inl v4)]) (k := 3) [1, 2, 3, 0, 4] dX11_laysTaken_138 rfl q7 (Nat.le_of_ble_eq_true rfl) rfl ?_
      refine a_goto (tgt := 24) dX11_laysTaken_141 (by decide) ?_
      refine a_sub [0, 1, 2, 3] rfl ?_
      exact h
    · replace h := h.2 c6
      refine a_aload_n (k := 0) dX11_laysTaken_86 rfl rfl ?_
      refine a_iload_n (k := 3) dX11_laysTaken_87 rfl rfl ?_
      refine a_iconst dX11_laysTaken_88 (by decide) ?_
      refine k_X11_127 rfl dX11_laysTaken_89 (Nat.le_of_ble_eq_true rfl) rfl (Nat.le_of_ble_eq_true rfl) (Nat.le_of_ble_eq_true rfl) (St_ho hg St_399) h (fun x8 n9 μ10 h => ?_)
      refine a_iload_n (k := 2) dX11_laysTaken_92 rfl rfl ?_
      refine a_icmp_lt (tgt := 138) dX11_laysTaken_93 (by decide) (fun c11 => ?_) (fun c11 => ?_)
      · replace h := h.1 c11
        obtain ⟨q12, h⟩ := h
        refine b_iinc (L' := [(0, .inr 399), (1, .inl v1), (2, .inl v2), (3, .inl (v3 + 1)), (4, .inl v4)]) (k := 3) [1, 2, 3, 0, 4] dX11_laysTaken_138 rfl q12 (Nat.le_of_ble_eq_true rfl) rfl ?_
        refine a_goto (tgt := 24) dX11_laysTaken_141 (by decide) ?_
        refine a_sub [0, 1, 2, 3] rfl ?_
        exact h
      · replace h := h.2 c11
        refine a_aload_n (k := 0) dX11_laysTaken_96 rfl rfl ?_
        refine a_aload_n (k := 0) dX11_laysTaken_97 rfl rfl ?_
        refine a_iload_n (k := 3) dX11_laysTaken_98 rfl rfl ?_
        refine a_iconst dX11_laysTaken_99 (by decide) ?_
        refine k_X11_127 rfl dX11_laysTaken_100 (Nat.le_of_ble_eq_true rfl) rfl (Nat.le_of_ble_eq_true rfl) (Nat.le_of_ble_eq_true rfl) (St_ho hg St_399) h (fun x13 n14 μ15 h => ?_)
        refine a_aload_n (k := 0) dX11_laysTaken_103 rfl rfl ?_
        refine a_iload_n (k := 3) dX11_laysTaken_104 rfl rfl ?_
        refine a_bipush dX11_laysTaken_105 (by decide) (by decide) ?_
        refine a_iconst dX11_laysTaken_107 (by decide) ?_
        refine a_iload (k := 4) dX11_laysTaken_108 rfl ?_
        obtain ⟨q16, h⟩ := h
        refine a_imul dX11_laysTaken_110 q16 ?_
        obtain ⟨q17, h⟩ := h
        refine a_iadd dX11_laysTaken_111 q17 ?_
        refine k_X11_127 rfl dX11_laysTaken_112 (Nat.le_of_ble_eq_true rfl) rfl (Nat.le_of_ble_eq_true rfl) (Nat.le_of_ble_eq_true rfl) (St_ho hg St_399) h (fun x18 n19 μ20 h => ?_)
        refine a_aload_n (k := 0) dX11_laysTaken_115 rfl rfl ?_
        refine a_iload_n (k := 3) dX11_laysTaken_116 rfl rfl ?_
        refine a_bipush dX11_laysTaken_117 (by decide) (by decide) ?_
        refine a_iconst dX11_laysTaken_119 (by decide) ?_
        refine a_iload (k := 4) dX11_laysTaken_120 rfl ?_
        obtain ⟨q21, h⟩ := h
        refine a_imul dX11_laysTaken_122 q21 ?_
        obtain ⟨q22, h⟩ := h
        refine a_iadd dX11_laysTaken_123 q22 ?_
        refine a_iconst dX11_laysTaken_124 (by decide) ?_
        obtain ⟨q23, h⟩ := h
        refine a_iadd dX11_laysTaken_125 q23 ?_
        refine k_X11_127 rfl dX11_laysTaken_126 (Nat.le_of_ble_eq_true rfl) rfl (Nat.le_of_ble_eq_true rfl) (Nat.le_of_ble_eq_true rfl) (St_ho hg St_399) h (fun x24 n25 μ26 h => ?_)
        refine k_X11_143 rfl dX11_laysTaken_129 (Nat.le_of_ble_eq_true rfl) rfl (Nat.le_of_ble_eq_true rfl) (Nat.le_of_ble_eq_true rfl) (St_ho hg St_399) h (fun n28 μ29 h => ?_)
        obtain ⟨q30, h⟩ := h
        refine b_iinc (L' := [(0, .inr 399), (1, .inl v1), (2, .inl v2), (3, .inl v3), (4, .inl (v4 + 1))]) (k := 4) [1, 2, 3, 4, 0] dX11_laysTaken_132 rfl q30 (Nat.le_of_ble_eq_true rfl) rfl ?_
        refine a_goto (tgt := 69) dX11_laysTaken_135 (by decide) ?_
        exact h
abbrev B_X11_beginsAt_38 (G : GT) (Q : Int → Nat → Mem → Prop) (n : Nat) (μ : Mem) (v2 : Int) (v4 : Int) (u0 : Int) : Prop := Wa G Y_X11_beginsAt (ZI G Y_X11_beginsAt Q) 0 0 n μ 38 [(0, .inr 399), (2, .inl v2), (4, .inl v4)] [.inl u0]
abbrev B_X11_beginsAt_62 (G : GT) (Q : Int → Nat → Mem → Prop) (n : Nat) (μ : Mem) (v2 : Int) (v4 : Int) (u0 : Int) : Prop := Wa G Y_X11_beginsAt (ZI G Y_X11_beginsAt Q) 0 0 n μ 62 [(0, .inr 399), (2, .inl v2), (4, .inl v4)] [.inl u0]
abbrev B_X11_beginsAt_67 (G : GT) (Q : Int → Nat → Mem → Prop) (n : Nat) (μ : Mem) (v2 : Int) (v4 : Int) (v5 : Int) (v6 : Int) : Prop := Wa G Y_X11_beginsAt (ZI G Y_X11_beginsAt Q) 0 0 n μ 67 [(0, .inr 399), (2, .inl v2), (4, .inl v4), (5, .inl v5), (6, .inl v6)] []
abbrev B_X11_beginsAt_106 (G : GT) (Q : Int → Nat → Mem → Prop) (n : Nat) (μ : Mem) (v2 : Int) (v4 : Int) (v5 : Int) (u0 : Int) : Prop := Wa G Y_X11_beginsAt (ZI G Y_X11_beginsAt Q) 0 0 n μ 106 [(0, .inr 399), (2, .inl v2), (4, .inl v4), (5, .inl v5)] [.inl u0]
theorem m_X11_beginsAt {G : GT} (hg : gx G = FX) {n : Nat} {μ : Mem} {Q : Int → Nat → Mem → Prop} {v1 v2 v3 : Int}  (h : (CI G Y_X11_ticks [.inr 399, .inl v1, .inl v2] n μ (fun (x1 : Int) (n2 : Nat) (μ3 : Mem) => ((inR (6 * v2)) ∧ ((inR ((6 * v2) + 2)) ∧ (((0 : Int) ≤ (6 * v2) + 2 ∧ (6 * v2) + 2 < 48) ∧ ((v3 ≤ (μ3 400 ((6 * v2) + 2)) → ((inR (6 * v2)) ∧ ((inR ((6 * v2) + 2)) ∧ (((0 : Int) ≤ (6 * v2) + 2 ∧ (6 * v2) + 2 < 48) ∧ (B_X11_beginsAt_38 G Q n2 μ3 v2 x1 (μ3 400 ((6 * v2) + 2))))))) ∧ (¬ (v3 ≤ (μ3 400 ((6 * v2) + 2))) → (B_X11_beginsAt_38 G Q n2 μ3 v2 x1 v3))))))))) : CI G Y_X11_beginsAt [.inr 399, .inl v1, .inl v2, .inl v3] n μ Q := by
  refine e_I (by decide) (Nat.le_of_ble_eq_true rfl) ?_
  show Wa G Y_X11_beginsAt (ZI G Y_X11_beginsAt Q) 0 0 n μ 0 [(0, .inr 399), (1, .inl v1), (2, .inl v2), (3, .inl v3)] []
  refine a_aload_n (k := 0) dX11_beginsAt_0 rfl rfl ?_
  refine a_iload_n (k := 1) dX11_beginsAt_1 rfl rfl ?_
  refine a_iload_n (k := 2) dX11_beginsAt_2 rfl rfl ?_
  refine k_X11_131 rfl dX11_beginsAt_3 (Nat.le_of_ble_eq_true rfl) rfl (Nat.le_of_ble_eq_true rfl) (Nat.le_of_ble_eq_true rfl) (St_ho hg St_399) h (fun x1 n2 μ3 h => ?_)
  refine b_istore (L' := [(0, .inr 399), (1, .inl v1), (2, .inl v2), (3, .inl v3), (4, .inl x1)]) [1, 2, 3, 4, 0] dX11_beginsAt_6 (Nat.le_of_ble_eq_true rfl) rfl ?_
  refine a_iload_n (k := 3) dX11_beginsAt_8 rfl rfl ?_
  refine a_aload_n (k := 0) dX11_beginsAt_9 rfl rfl ?_
  refine gs_X11_7 rfl dX11_beginsAt_10 hg St_399 ?_
  refine a_bipush dX11_beginsAt_13 (by decide) (by decide) ?_
  refine a_iload_n (k := 2) dX11_beginsAt_15 rfl rfl ?_
  obtain ⟨q4, h⟩ := h
  refine a_imul dX11_beginsAt_16 q4 ?_
  refine a_iconst dX11_beginsAt_17 (by decide) ?_
  obtain ⟨q5, h⟩ := h
  refine a_iadd dX11_beginsAt_18 q5 ?_
  obtain ⟨q6, h⟩ := h
  refine a_iaload dX11_beginsAt_19 (St_ho hg St_400) q6.1 q6.2 ?_
  refine a_icmp_le (tgt := 27) dX11_beginsAt_20 (by decide) (fun c7 => ?_) (fun c7 => ?_)
  · replace h := h.1 c7
    refine a_aload_n (k := 0) dX11_beginsAt_27 rfl rfl ?_
    refine gs_X11_7 rfl dX11_beginsAt_28 hg St_399 ?_
    refine a_bipush dX11_beginsAt_31 (by decide) (by decide) ?_
    refine a_iload_n (k := 2) dX11_beginsAt_33 rfl rfl ?_
    obtain ⟨q8, h⟩ := h
    refine a_imul dX11_beginsAt_34 q8 ?_
    refine a_iconst dX11_beginsAt_35 (by decide) ?_
    obtain ⟨q9, h⟩ := h
    refine a_iadd dX11_beginsAt_36 q9 ?_
    obtain ⟨q10, h⟩ := h
    refine a_iaload dX11_beginsAt_37 (St_ho hg St_400) q10.1 q10.2 ?_
    refine a_sub [0, 2, 4] rfl ?_
    exact h
  · replace h := h.2 c7
    refine a_iload_n (k := 3) dX11_beginsAt_23 rfl rfl ?_
    refine a_goto (tgt := 38) dX11_beginsAt_24 (by decide) ?_
    refine a_sub [0, 2, 4] rfl ?_
    exact h
theorem b_X11_beginsAt_38 {G : GT} (hg : gx G = FX) {n : Nat} {μ : Mem} {Q : Int → Nat → Mem → Prop} {v2 v4 u0 : Int}  (h : ((u0 ≤ (μ 402 0) → (B_X11_beginsAt_62 G Q n μ v2 v4 (μ 402 0))) ∧ (¬ (u0 ≤ (μ 402 0)) → (B_X11_beginsAt_62 G Q n μ v2 v4 u0)))) : B_X11_beginsAt_38 G Q n μ v2 v4 u0 := by
  show Wa G Y_X11_beginsAt (ZI G Y_X11_beginsAt Q) 0 0 n μ 38 [(0, .inr 399), (2, .inl v2), (4, .inl v4)] [.inl u0]
  refine b_istore (L' := [(0, .inr 399), (2, .inl v2), (4, .inl v4), (5, .inl u0)]) [1, 2, 3, 0] dX11_beginsAt_38 (Nat.le_of_ble_eq_true rfl) rfl ?_
  refine a_iload (k := 3) dX11_beginsAt_40 rfl ?_
  refine a_aload_n (k := 0) dX11_beginsAt_42 rfl rfl ?_
  refine gs_X11_16 rfl dX11_beginsAt_43 hg St_399 ?_
  refine a_iconst dX11_beginsAt_46 (by decide) ?_
  refine a_iaload dX11_beginsAt_47 (St_ho hg St_402) (by decide) (by decide) ?_
  refine a_icmp_le (tgt := 56) dX11_beginsAt_48 (by decide) (fun c1 => ?_) (fun c1 => ?_)
  · replace h := h.1 c1
    refine a_aload_n (k := 0) dX11_beginsAt_56 rfl rfl ?_
    refine gs_X11_16 rfl dX11_beginsAt_57 hg St_399 ?_
    refine a_iconst dX11_beginsAt_60 (by decide) ?_
    refine a_iaload dX11_beginsAt_61 (St_ho hg St_402) (by decide) (by decide) ?_
    refine a_sub [0, 1, 2] rfl ?_
    exact h
  · replace h := h.2 c1
    refine a_iload (k := 3) dX11_beginsAt_51 rfl ?_
    refine a_goto (tgt := 62) dX11_beginsAt_53 (by decide) ?_
    refine a_sub [0, 1, 2] rfl ?_
    exact h
theorem b_X11_beginsAt_62 {G : GT} (hg : gx G = FX) {n : Nat} {μ : Mem} {Q : Int → Nat → Mem → Prop} {v2 v4 u0 : Int}  (h : (B_X11_beginsAt_67 G Q n μ v2 v4 u0 0)) : B_X11_beginsAt_62 G Q n μ v2 v4 u0 := by
  show Wa G Y_X11_beginsAt (ZI G Y_X11_beginsAt Q) 0 0 n μ 62 [(0, .inr 399), (2, .inl v2), (4, .inl v4)] [.inl u0]
  refine b_istore (L' := [(0, .inr 399), (2, .inl v2), (4, .inl v4), (5, .inl u0)]) [1, 2, 3, 0] dX11_beginsAt_62 (Nat.le_of_ble_eq_true rfl) rfl ?_
  refine a_iconst dX11_beginsAt_64 (by decide) ?_
  refine b_istore (L' := [(0, .inr 399), (2, .inl v2), (4, .inl v4), (5, .inl u0), (6, .inl 0)]) [1, 2, 3, 4, 0] dX11_beginsAt_65 (Nat.le_of_ble_eq_true rfl) rfl ?_
  exact h
theorem b_X11_beginsAt_67 {G : GT} (hg : gx G = FX) {n : Nat} {μ : Mem} {Q : Int → Nat → Mem → Prop} {v2 v4 v5 v6 : Int}  (h : ((inR (6 * v2)) ∧ ((inR ((6 * v2) + 3)) ∧ (((0 : Int) ≤ (6 * v2) + 3 ∧ (6 * v2) + 3 < 48) ∧ (((μ 400 ((6 * v2) + 3)) ≤ v5 → (Q 9999 n μ)) ∧ (¬ ((μ 400 ((6 * v2) + 3)) ≤ v5) → ((inR (100 * v2)) ∧ ((inR ((100 * v2) + v5)) ∧ (((0 : Int) ≤ (100 * v2) + v5 ∧ (100 * v2) + v5 < 800) ∧ ((μ 411 ((100 * v2) + v5) = 0 ∨ μ 411 ((100 * v2) + v5) = 1) → (((μ 411 ((100 * v2) + v5)) = 0 → ((inR (v6 + 1)) ∧ (B_X11_beginsAt_106 G Q n μ v2 v4 v5 (v6 + 1)))) ∧ (¬ ((μ 411 ((100 * v2) + v5)) = 0) → (B_X11_beginsAt_106 G Q n μ v2 v4 v5 0))))))))))))) : B_X11_beginsAt_67 G Q n μ v2 v4 v5 v6 := by
  show Wa G Y_X11_beginsAt (ZI G Y_X11_beginsAt Q) 0 0 n μ 67 [(0, .inr 399), (2, .inl v2), (4, .inl v4), (5, .inl v5), (6, .inl v6)] []
  refine a_iload (k := 3) dX11_beginsAt_67 rfl ?_
  refine a_aload_n (k := 0) dX11_beginsAt_69 rfl rfl ?_
  refine gs_X11_7 rfl dX11_beginsAt_70 hg St_399 ?_
  refine a_bipush dX11_beginsAt_73 (by decide) (by decide) ?_
  refine a_iload_n (k := 1) dX11_beginsAt_75 rfl rfl ?_
  obtain ⟨q1, h⟩ := h
  refine a_imul dX11_beginsAt_76 q1 ?_
  refine a_iconst dX11_beginsAt_77 (by decide) ?_
  obtain ⟨q2, h⟩ := h
  refine a_iadd dX11_beginsAt_78 q2 ?_
  obtain ⟨q3, h⟩ := h
  refine a_iaload dX11_beginsAt_79 (St_ho hg St_400) q3.1 q3.2 ?_
  refine a_icmp_ge (tgt := 129) dX11_beginsAt_80 (by decide) (fun c4 => ?_) (fun c4 => ?_)
  · replace h := h.1 c4
    refine a_sipush dX11_beginsAt_129 (by decide) (by decide) ?_
    exact a_iret dX11_beginsAt_132 rfl (Nat.le_of_ble_eq_true rfl) (Nat.le_of_ble_eq_true rfl) h
  · replace h := h.2 c4
    refine a_aload_n (k := 0) dX11_beginsAt_83 rfl rfl ?_
    refine gs_X11_44 rfl dX11_beginsAt_84 hg St_399 ?_
    refine a_bipush dX11_beginsAt_87 (by decide) (by decide) ?_
    refine a_iload_n (k := 1) dX11_beginsAt_89 rfl rfl ?_
    obtain ⟨q5, h⟩ := h
    refine a_imul dX11_beginsAt_90 q5 ?_
    refine a_iload (k := 3) dX11_beginsAt_91 rfl ?_
    obtain ⟨q6, h⟩ := h
    refine a_iadd dX11_beginsAt_93 q6 ?_
    obtain ⟨q8, h⟩ := h
    refine a_zaload dX11_beginsAt_94 (St_ho hg St_411) q8.1 q8.2 (fun z7 => ?_)
    replace h := h z7
    refine a_if_eq (tgt := 102) dX11_beginsAt_95 (by decide) (fun c9 => ?_) (fun c9 => ?_)
    · replace h := h.1 c9
      refine a_iload (k := 4) dX11_beginsAt_102 rfl ?_
      refine a_iconst dX11_beginsAt_104 (by decide) ?_
      obtain ⟨q10, h⟩ := h
      refine a_iadd dX11_beginsAt_105 q10 ?_
      refine a_sub [0, 1, 2, 3] rfl ?_
      exact h
    · replace h := h.2 c9
      refine a_iconst dX11_beginsAt_98 (by decide) ?_
      refine a_goto (tgt := 106) dX11_beginsAt_99 (by decide) ?_
      refine a_sub [0, 1, 2, 3] rfl ?_
      exact h
theorem b_X11_beginsAt_106 {G : GT} (hg : gx G = FX) {n : Nat} {μ : Mem} {Q : Int → Nat → Mem → Prop} {v2 v4 v5 u0 : Int}  (h : ((¬ (u0 = v4) → ((inR (v5 + 1)) ∧ (B_X11_beginsAt_67 G Q n μ v2 v4 (v5 + 1) u0))) ∧ (u0 = v4 → ((inR (v5 + 1)) ∧ ((inR ((v5 + 1) - v4)) ∧ (Q ((v5 + 1) - v4) n μ)))))) : B_X11_beginsAt_106 G Q n μ v2 v4 v5 u0 := by
  show Wa G Y_X11_beginsAt (ZI G Y_X11_beginsAt Q) 0 0 n μ 106 [(0, .inr 399), (2, .inl v2), (4, .inl v4), (5, .inl v5)] [.inl u0]
  refine b_istore (L' := [(0, .inr 399), (2, .inl v2), (4, .inl v4), (5, .inl v5), (6, .inl u0)]) [1, 2, 3, 4, 0] dX11_beginsAt_106 (Nat.le_of_ble_eq_true rfl) rfl ?_
  refine a_iload (k := 4) dX11_beginsAt_108 rfl ?_
  refine a_iload (k := 2) dX11_beginsAt_110 rfl ?_
  refine a_icmp_ne (tgt := 123) dX11_beginsAt_112 (by decide) (fun c1 => ?_) (fun c1 => ?_)
  · replace h := h.1 c1
    obtain ⟨q2, h⟩ := h
    refine b_iinc (L' := [(0, .inr 399), (2, .inl v2), (4, .inl v4), (5, .inl (v5 + 1)), (6, .inl u0)]) (k := 3) [1, 2, 3, 0, 4] dX11_beginsAt_123 rfl q2 (Nat.le_of_ble_eq_true rfl) rfl ?_
    refine a_goto (tgt := 67) dX11_beginsAt_126 (by decide) ?_
    exact h
  · replace h := h.2 c1
    refine a_iload (k := 3) dX11_beginsAt_115 rfl ?_
    refine a_iconst dX11_beginsAt_117 (by decide) ?_
    obtain ⟨q3, h⟩ := h
    refine a_iadd dX11_beginsAt_118 q3 ?_
    refine a_iload (k := 2) dX11_beginsAt_119 rfl ?_
    obtain ⟨q4, h⟩ := h
    refine a_isub dX11_beginsAt_121 q4 ?_
    exact a_iret dX11_beginsAt_122 rfl (Nat.le_of_ble_eq_true rfl) (Nat.le_of_ble_eq_true rfl) h
theorem m_X11_endsAt {G : GT} (hg : gx G = FX) {n : Nat} {μ : Mem} {Q : Int → Nat → Mem → Prop} {v1 v2 v3 : Int}  (h : (CI G Y_X11_beginsAt [.inr 399, .inl v1, .inl v2, .inl v3] n μ (fun (x1 : Int) (n2 : Nat) (μ3 : Mem) => ((¬ (x1 = 9999) → (CI G Y_X11_ticks [.inr 399, .inl v1, .inl v2] n2 μ3 (fun (x5 : Int) (n6 : Nat) (μ7 : Mem) => ((inR (x1 + x5)) ∧ ((inR (6 * v2)) ∧ ((inR ((6 * v2) + 5)) ∧ (((0 : Int) ≤ (6 * v2) + 5 ∧ (6 * v2) + 5 < 48) ∧ ((inR ((x1 + x5) + (μ7 400 ((6 * v2) + 5)))) ∧ (Q ((x1 + x5) + (μ7 400 ((6 * v2) + 5))) n6 μ7))))))))) ∧ (x1 = 9999 → (Q 9999 n2 μ3)))))) : CI G Y_X11_endsAt [.inr 399, .inl v1, .inl v2, .inl v3] n μ Q := by
  refine e_I (by decide) (Nat.le_of_ble_eq_true rfl) ?_
  show Wa G Y_X11_endsAt (ZI G Y_X11_endsAt Q) 0 0 n μ 0 [(0, .inr 399), (1, .inl v1), (2, .inl v2), (3, .inl v3)] []
  refine a_aload_n (k := 0) dX11_endsAt_0 rfl rfl ?_
  refine a_iload_n (k := 1) dX11_endsAt_1 rfl rfl ?_
  refine a_iload_n (k := 2) dX11_endsAt_2 rfl rfl ?_
  refine a_iload_n (k := 3) dX11_endsAt_3 rfl rfl ?_
  refine k_X11_147 rfl dX11_endsAt_4 (Nat.le_of_ble_eq_true rfl) rfl (Nat.le_of_ble_eq_true rfl) (Nat.le_of_ble_eq_true rfl) (St_ho hg St_399) h (fun x1 n2 μ3 h => ?_)
  refine b_istore (L' := [(0, .inr 399), (1, .inl v1), (2, .inl v2), (3, .inl v3), (4, .inl x1)]) [1, 2, 3, 4, 0] dX11_endsAt_7 (Nat.le_of_ble_eq_true rfl) rfl ?_
  refine a_iload (k := 4) dX11_endsAt_9 rfl ?_
  refine a_sipush dX11_endsAt_11 (by decide) (by decide) ?_
  refine a_icmp_ne (tgt := 23) dX11_endsAt_14 (by decide) (fun c4 => ?_) (fun c4 => ?_)
  · replace h := h.1 c4
    refine a_iload (k := 4) dX11_endsAt_23 rfl ?_
    refine a_aload_n (k := 0) dX11_endsAt_25 rfl rfl ?_
    refine a_iload_n (k := 1) dX11_endsAt_26 rfl rfl ?_
    refine a_iload_n (k := 2) dX11_endsAt_27 rfl rfl ?_
    refine k_X11_131 rfl dX11_endsAt_28 (Nat.le_of_ble_eq_true rfl) rfl (Nat.le_of_ble_eq_true rfl) (Nat.le_of_ble_eq_true rfl) (St_ho hg St_399) h (fun x5 n6 μ7 h => ?_)
    obtain ⟨q8, h⟩ := h
    refine a_iadd dX11_endsAt_31 q8 ?_
    refine a_aload_n (k := 0) dX11_endsAt_32 rfl rfl ?_
    refine gs_X11_7 rfl dX11_endsAt_33 hg St_399 ?_
    refine a_bipush dX11_endsAt_36 (by decide) (by decide) ?_
    refine a_iload_n (k := 2) dX11_endsAt_38 rfl rfl ?_
    obtain ⟨q9, h⟩ := h
    refine a_imul dX11_endsAt_39 q9 ?_
    refine a_iconst dX11_endsAt_40 (by decide) ?_
    obtain ⟨q10, h⟩ := h
    refine a_iadd dX11_endsAt_41 q10 ?_
    obtain ⟨q11, h⟩ := h
    refine a_iaload dX11_endsAt_42 (St_ho hg St_400) q11.1 q11.2 ?_
    obtain ⟨q12, h⟩ := h
    refine a_iadd dX11_endsAt_43 q12 ?_
    exact a_iret dX11_endsAt_44 rfl (Nat.le_of_ble_eq_true rfl) (Nat.le_of_ble_eq_true rfl) h
  · replace h := h.2 c4
    refine a_sipush dX11_endsAt_17 (by decide) (by decide) ?_
    refine a_goto (tgt := 44) dX11_endsAt_20 (by decide) ?_
    exact a_iret dX11_endsAt_44 rfl (Nat.le_of_ble_eq_true rfl) (Nat.le_of_ble_eq_true rfl) h
abbrev B_X11_laysFirst_3 (G : GT) (Q : Nat → Mem → Prop) (n : Nat) (μ : Mem) (v1 : Int) (v2 : Int) (v3 : Int) (v4 : Int) (v5 : Int) (v6 : Int) : Prop := Wa G Y_X11_laysFirst (ZV G Y_X11_laysFirst Q) 0 0 n μ 3 [(0, .inr 399), (1, .inl v1), (2, .inl v2), (3, .inl v3), (4, .inl v4), (5, .inl v5), (6, .inl v6)] []
abbrev B_X11_laysFirst_39 (G : GT) (Q : Nat → Mem → Prop) (n : Nat) (μ : Mem) (v1 : Int) (v4 : Int) (v5 : Int) (v6 : Int) : Prop := Wa G Y_X11_laysFirst (ZV G Y_X11_laysFirst Q) 0 0 n μ 39 [(0, .inr 399), (1, .inl v1), (4, .inl v4), (5, .inl v5), (6, .inl v6)] []
abbrev B_X11_laysFirst_49 (G : GT) (Q : Nat → Mem → Prop) (n : Nat) (μ : Mem) (v1 : Int) (v4 : Int) (v5 : Int) (v6 : Int) (v7 : Int) : Prop := Wa G Y_X11_laysFirst (ZV G Y_X11_laysFirst Q) 0 0 n μ 49 [(0, .inr 399), (1, .inl v1), (4, .inl v4), (5, .inl v5), (6, .inl v6), (7, .inl v7)] []
abbrev B_X11_laysFirst_94 (G : GT) (Q : Nat → Mem → Prop) (n : Nat) (μ : Mem) (v1 : Int) (v4 : Int) (v5 : Int) (v6 : Int) (v7 : Int) : Prop := Wa G Y_X11_laysFirst (ZV G Y_X11_laysFirst Q) 0 0 n μ 94 [(0, .inr 399), (1, .inl v1), (4, .inl v4), (5, .inl v5), (6, .inl v6), (7, .inl v7)] []
theorem m_X11_laysFirst {G : GT} (hg : gx G = FX) {n : Nat} {μ : Mem} {Q : Nat → Mem → Prop} {v1 v2 v3 v4 v5 : Int}  (h : (B_X11_laysFirst_3 G Q n μ v1 v2 v3 v4 v5 0)) : CV G Y_X11_laysFirst [.inr 399, .inl v1, .inl v2, .inl v3, .inl v4, .inl v5] n μ Q := by
  refine e_V (by decide) (Nat.le_of_ble_eq_true rfl) ?_
  show Wa G Y_X11_laysFirst (ZV G Y_X11_laysFirst Q) 0 0 n μ 0 [(0, .inr 399), (1, .inl v1), (2, .inl v2), (3, .inl v3), (4, .inl v4), (5, .inl v5)] []
  refine a_iconst dX11_laysFirst_0 (by decide) ?_
  refine b_istore (L' := [(0, .inr 399), (1, .inl v1), (2, .inl v2), (3, .inl v3), (4, .inl v4), (5, .inl v5), (6, .inl 0)]) [1, 2, 3, 4, 5, 6, 0] dX11_laysFirst_1 (Nat.le_of_ble_eq_true rfl) rfl ?_
  exact h
theorem b_X11_laysFirst_3 {G : GT} (hg : gx G = FX) {n : Nat} {μ : Mem} {Q : Nat → Mem → Prop} {v1 v2 v3 v4 v5 v6 : Int}  (h : ((6 ≤ v6 → (B_X11_laysFirst_39 G Q n μ v1 v4 v5 1)) ∧ (¬ (6 ≤ v6) → ((¬ (v6 = v2) → (((0 : Int) ≤ v6 ∧ v6 < 36) ∧ ((inR (v6 + 1)) ∧ (B_X11_laysFirst_3 G Q n (up μ 412 v6 9999) v1 v2 v3 v4 v5 (v6 + 1))))) ∧ (v6 = v2 → (((0 : Int) ≤ v6 ∧ v6 < 36) ∧ ((inR (v6 + 1)) ∧ (B_X11_laysFirst_3 G Q n (up μ 412 v6 v3) v1 v2 v3 v4 v5 (v6 + 1))))))))) : B_X11_laysFirst_3 G Q n μ v1 v2 v3 v4 v5 v6 := by
  show Wa G Y_X11_laysFirst (ZV G Y_X11_laysFirst Q) 0 0 n μ 3 [(0, .inr 399), (1, .inl v1), (2, .inl v2), (3, .inl v3), (4, .inl v4), (5, .inl v5), (6, .inl v6)] []
  refine a_iload (k := 6) dX11_laysFirst_3 rfl ?_
  refine a_bipush dX11_laysFirst_5 (by decide) (by decide) ?_
  refine a_icmp_ge (tgt := 36) dX11_laysFirst_7 (by decide) (fun c1 => ?_) (fun c1 => ?_)
  · replace h := h.1 c1
    refine a_iconst dX11_laysFirst_36 (by decide) ?_
    refine b_istore (L' := [(0, .inr 399), (1, .inl v1), (2, .inl v2), (3, .inl v3), (4, .inl v4), (5, .inl v5), (6, .inl 1)]) [1, 2, 3, 4, 5, 6, 0] dX11_laysFirst_37 (Nat.le_of_ble_eq_true rfl) rfl ?_
    refine a_sub [0, 1, 4, 5, 6] rfl ?_
    exact h
  · replace h := h.2 c1
    refine a_aload_n (k := 0) dX11_laysFirst_10 rfl rfl ?_
    refine gs_X11_47 rfl dX11_laysFirst_11 hg St_399 ?_
    refine a_iload (k := 6) dX11_laysFirst_14 rfl ?_
    refine a_iload (k := 6) dX11_laysFirst_16 rfl ?_
    refine a_iload_n (k := 2) dX11_laysFirst_18 rfl rfl ?_
    refine a_icmp_ne (tgt := 26) dX11_laysFirst_19 (by decide) (fun c2 => ?_) (fun c2 => ?_)
    · replace h := h.1 c2
      refine a_sipush dX11_laysFirst_26 (by decide) (by decide) ?_
      obtain ⟨q3, h⟩ := h
      refine a_iastore dX11_laysFirst_29 (St_ho hg St_412) q3.1 q3.2 (FX_put hg St_412 rfl) ?_
      obtain ⟨q4, h⟩ := h
      refine b_iinc (L' := [(0, .inr 399), (1, .inl v1), (2, .inl v2), (3, .inl v3), (4, .inl v4), (5, .inl v5), (6, .inl (v6 + 1))]) (k := 6) [1, 2, 3, 4, 5, 6, 0] dX11_laysFirst_30 rfl q4 (Nat.le_of_ble_eq_true rfl) rfl ?_
      refine a_goto (tgt := 3) dX11_laysFirst_33 (by decide) ?_
      exact h
    · replace h := h.2 c2
      refine a_iload_n (k := 3) dX11_laysFirst_22 rfl rfl ?_
      refine a_goto (tgt := 29) dX11_laysFirst_23 (by decide) ?_
      obtain ⟨q5, h⟩ := h
      refine a_iastore dX11_laysFirst_29 (St_ho hg St_412) q5.1 q5.2 (FX_put hg St_412 rfl) ?_
      obtain ⟨q6, h⟩ := h
      refine b_iinc (L' := [(0, .inr 399), (1, .inl v1), (2, .inl v2), (3, .inl v3), (4, .inl v4), (5, .inl v5), (6, .inl (v6 + 1))]) (k := 6) [1, 2, 3, 4, 5, 6, 0] dX11_laysFirst_30 rfl q6 (Nat.le_of_ble_eq_true rfl) rfl ?_
      refine a_goto (tgt := 3) dX11_laysFirst_33 (by decide) ?_
      exact h
theorem b_X11_laysFirst_39 {G : GT} (hg : gx G = FX) {n : Nat} {μ : Mem} {Q : Nat → Mem → Prop} {v1 v4 v5 v6 : Int}  (h : ((v4 < v6 → (Q n μ)) ∧ (¬ (v4 < v6) → (B_X11_laysFirst_49 G Q n μ v1 v4 v5 v6 0)))) : B_X11_laysFirst_39 G Q n μ v1 v4 v5 v6 := by
  show Wa G Y_X11_laysFirst (ZV G Y_X11_laysFirst Q) 0 0 n μ 39 [(0, .inr 399), (1, .inl v1), (4, .inl v4), (5, .inl v5), (6, .inl v6)] []
  refine a_iload (k := 4) dX11_laysFirst_39 rfl ?_
  refine a_iload (k := 2) dX11_laysFirst_41 rfl ?_
  refine a_icmp_gt (tgt := 227) dX11_laysFirst_43 (by decide) (fun c1 => ?_) (fun c1 => ?_)
  · replace h := h.1 c1
    exact a_ret dX11_laysFirst_227 rfl (Nat.le_of_ble_eq_true rfl) (Nat.le_of_ble_eq_true rfl) h
  · replace h := h.2 c1
    refine a_iconst dX11_laysFirst_46 (by decide) ?_
    refine b_istore (L' := [(0, .inr 399), (1, .inl v1), (4, .inl v4), (5, .inl v5), (6, .inl v6), (7, .inl 0)]) [1, 2, 3, 4, 5, 0] dX11_laysFirst_47 (Nat.le_of_ble_eq_true rfl) rfl ?_
    exact h
theorem b_X11_laysFirst_49 {G : GT} (hg : gx G = FX) {n : Nat} {μ : Mem} {Q : Nat → Mem → Prop} {v1 v4 v5 v6 v7 : Int}  (h : ((6 ≤ v7 → (B_X11_laysFirst_94 G Q n μ v1 v4 v5 v6 0)) ∧ (¬ (6 ≤ v7) → ((inR (6 * v6)) ∧ ((inR ((6 * v6) + v7)) ∧ ((inR (6 * v6)) ∧ ((inR ((6 * v6) - 6)) ∧ ((inR (((6 * v6) - 6) + v7)) ∧ (((0 : Int) ≤ ((6 * v6) - 6) + v7 ∧ ((6 * v6) - 6) + v7 < 36) ∧ (((0 : Int) ≤ (6 * v6) + v7 ∧ (6 * v6) + v7 < 36) ∧ ((inR (v7 + 1)) ∧ (B_X11_laysFirst_49 G Q n (up μ 412 ((6 * v6) + v7) (μ 412 (((6 * v6) - 6) + v7))) v1 v4 v5 v6 (v7 + 1))))))))))))) : B_X11_laysFirst_49 G Q n μ v1 v4 v5 v6 v7 := by
  show Wa G Y_X11_laysFirst (ZV G Y_X11_laysFirst Q) 0 0 n μ 49 [(0, .inr 399), (1, .inl v1), (4, .inl v4), (5, .inl v5), (6, .inl v6), (7, .inl v7)] []
  refine a_iload (k := 5) dX11_laysFirst_49 rfl ?_
  refine a_bipush dX11_laysFirst_51 (by decide) (by decide) ?_
  refine a_icmp_ge (tgt := 91) dX11_laysFirst_53 (by decide) (fun c1 => ?_) (fun c1 => ?_)
  · replace h := h.1 c1
    refine a_iconst dX11_laysFirst_91 (by decide) ?_
    refine b_istore (L' := [(0, .inr 399), (1, .inl v1), (4, .inl v4), (5, .inl v5), (6, .inl v6), (7, .inl 0)]) [1, 2, 3, 4, 5, 0] dX11_laysFirst_92 (Nat.le_of_ble_eq_true rfl) rfl ?_
    exact h
  · replace h := h.2 c1
    refine a_aload_n (k := 0) dX11_laysFirst_56 rfl rfl ?_
    refine gs_X11_47 rfl dX11_laysFirst_57 hg St_399 ?_
    refine a_bipush dX11_laysFirst_60 (by decide) (by decide) ?_
    refine a_iload (k := 4) dX11_laysFirst_62 rfl ?_
    obtain ⟨q2, h⟩ := h
    refine a_imul dX11_laysFirst_64 q2 ?_
    refine a_iload (k := 5) dX11_laysFirst_65 rfl ?_
    obtain ⟨q3, h⟩ := h
    refine a_iadd dX11_laysFirst_67 q3 ?_
    refine a_aload_n (k := 0) dX11_laysFirst_68 rfl rfl ?_
    refine gs_X11_47 rfl dX11_laysFirst_69 hg St_399 ?_
    refine a_bipush dX11_laysFirst_72 (by decide) (by decide) ?_
    refine a_iload (k := 4) dX11_laysFirst_74 rfl ?_
    obtain ⟨q4, h⟩ := h
    refine a_imul dX11_laysFirst_76 q4 ?_
    refine a_bipush dX11_laysFirst_77 (by decide) (by decide) ?_
    obtain ⟨q5, h⟩ := h
    refine a_isub dX11_laysFirst_79 q5 ?_
    refine a_iload (k := 5) dX11_laysFirst_80 rfl ?_
    obtain ⟨q6, h⟩ := h
    refine a_iadd dX11_laysFirst_82 q6 ?_
    obtain ⟨q7, h⟩ := h
    refine a_iaload dX11_laysFirst_83 (St_ho hg St_412) q7.1 q7.2 ?_
    obtain ⟨q8, h⟩ := h
    refine a_iastore dX11_laysFirst_84 (St_ho hg St_412) q8.1 q8.2 (FX_put hg St_412 rfl) ?_
    obtain ⟨q9, h⟩ := h
    refine b_iinc (L' := [(0, .inr 399), (1, .inl v1), (4, .inl v4), (5, .inl v5), (6, .inl v6), (7, .inl (v7 + 1))]) (k := 5) [1, 2, 3, 4, 5, 0] dX11_laysFirst_85 rfl q9 (Nat.le_of_ble_eq_true rfl) rfl ?_
    refine a_goto (tgt := 49) dX11_laysFirst_88 (by decide) ?_
    exact h
theorem b_X11_laysFirst_94 {G : GT} (hg : gx G = FX) {n : Nat} {μ : Mem} {Q : Nat → Mem → Prop} {v1 v4 v5 v6 v7 : Int}  (h : (((μ 399 2) ≤ v7 → ((inR (v6 + 1)) ∧ (B_X11_laysFirst_39 G Q n μ v1 v4 v5 (v6 + 1)))) ∧ (¬ ((μ 399 2) ≤ v7) → ((inR (6 * v6)) ∧ ((inR ((6 * v6) - 6)) ∧ ((inR (6 * v7)) ∧ (((0 : Int) ≤ 6 * v7 ∧ 6 * v7 < 48) ∧ ((inR (((6 * v6) - 6) + (μ 400 (6 * v7)))) ∧ (((0 : Int) ≤ ((6 * v6) - 6) + (μ 400 (6 * v7)) ∧ ((6 * v6) - 6) + (μ 400 (6 * v7)) < 36) ∧ ((v7 = v5 → ((inR (v7 + 1)) ∧ (B_X11_laysFirst_94 G Q n μ v1 v4 v5 v6 (v7 + 1)))) ∧ (¬ (v7 = v5) → (CI G Y_X11_isMissed [.inr 399, .inl v7] n μ (fun (x11 : Int) (n12 : Nat) (μ13 : Mem) => ((¬ (x11 = 0) → ((inR (v7 + 1)) ∧ (B_X11_laysFirst_94 G Q n12 μ13 v1 v4 v5 v6 (v7 + 1)))) ∧ (x11 = 0 → ((9999 ≤ (μ 412 (((6 * v6) - 6) + (μ 400 (6 * v7)))) → ((inR (v7 + 1)) ∧ (B_X11_laysFirst_94 G Q n12 μ13 v1 v4 v5 v6 (v7 + 1)))) ∧ (¬ (9999 ≤ (μ 412 (((6 * v6) - 6) + (μ 400 (6 * v7))))) → (CI G Y_X11_endsAt [.inr 399, .inl v1, .inl v7, .inl (μ 412 (((6 * v6) - 6) + (μ 400 (6 * v7))))] n12 μ13 (fun (x18 : Int) (n19 : Nat) (μ20 : Mem) => ((inR (6 * v6)) ∧ ((inR (6 * v7)) ∧ ((inR ((6 * v7) + 1)) ∧ (((0 : Int) ≤ (6 * v7) + 1 ∧ (6 * v7) + 1 < 48) ∧ ((inR ((6 * v6) + (μ20 400 ((6 * v7) + 1)))) ∧ (((0 : Int) ≤ (6 * v6) + (μ20 400 ((6 * v7) + 1)) ∧ (6 * v6) + (μ20 400 ((6 * v7) + 1)) < 36) ∧ (((μ20 412 ((6 * v6) + (μ20 400 ((6 * v7) + 1)))) ≤ x18 → (((0 : Int) ≤ (6 * v6) + (μ20 400 ((6 * v7) + 1)) ∧ (6 * v6) + (μ20 400 ((6 * v7) + 1)) < 36) ∧ (((0 : Int) ≤ (6 * v6) + (μ20 400 ((6 * v7) + 1)) ∧ (6 * v6) + (μ20 400 ((6 * v7) + 1)) < 36) ∧ ((inR (v7 + 1)) ∧ (B_X11_laysFirst_94 G Q n19 (up μ20 412 ((6 * v6) + (μ20 400 ((6 * v7) + 1))) (μ20 412 ((6 * v6) + (μ20 400 ((6 * v7) + 1))))) v1 v4 v5 v6 (v7 + 1)))))) ∧ (¬ ((μ20 412 ((6 * v6) + (μ20 400 ((6 * v7) + 1)))) ≤ x18) → (((0 : Int) ≤ (6 * v6) + (μ20 400 ((6 * v7) + 1)) ∧ (6 * v6) + (μ20 400 ((6 * v7) + 1)) < 36) ∧ ((inR (v7 + 1)) ∧ (B_X11_laysFirst_94 G Q n19 (up μ20 412 ((6 * v6) + (μ20 400 ((6 * v7) + 1))) x18) v1 v4 v5 v6 (v7 + 1))))))))))))))))))))))))))))))) : B_X11_laysFirst_94 G Q n μ v1 v4 v5 v6 v7 := by
  show Wa G Y_X11_laysFirst (ZV G Y_X11_laysFirst Q) 0 0 n μ 94 [(0, .inr 399), (1, .inl v1), (4, .inl v4), (5, .inl v5), (6, .inl v6), (7, .inl v7)] []
  refine a_iload (k := 5) dX11_laysFirst_94 rfl ?_
  refine a_aload_n (k := 0) dX11_laysFirst_96 rfl rfl ?_
  refine g_X11_73 rfl dX11_laysFirst_97 (St_ho hg St_399) ?_
  refine a_icmp_ge (tgt := 221) dX11_laysFirst_100 (by decide) (fun c1 => ?_) (fun c1 => ?_)
  · replace h := h.1 c1
    obtain ⟨q2, h⟩ := h
    refine b_iinc (L' := [(0, .inr 399), (1, .inl v1), (4, .inl v4), (5, .inl v5), (6, .inl (v6 + 1)), (7, .inl v7)]) (k := 4) [1, 2, 3, 4, 0, 5] dX11_laysFirst_221 rfl q2 (Nat.le_of_ble_eq_true rfl) rfl ?_
    refine a_goto (tgt := 39) dX11_laysFirst_224 (by decide) ?_
    refine a_sub [0, 1, 2, 3, 4] rfl ?_
    exact h
  · replace h := h.2 c1
    refine a_aload_n (k := 0) dX11_laysFirst_103 rfl rfl ?_
    refine gs_X11_47 rfl dX11_laysFirst_104 hg St_399 ?_
    refine a_bipush dX11_laysFirst_107 (by decide) (by decide) ?_
    refine a_iload (k := 4) dX11_laysFirst_109 rfl ?_
    obtain ⟨q3, h⟩ := h
    refine a_imul dX11_laysFirst_111 q3 ?_
    refine a_bipush dX11_laysFirst_112 (by decide) (by decide) ?_
    obtain ⟨q4, h⟩ := h
    refine a_isub dX11_laysFirst_114 q4 ?_
    refine a_aload_n (k := 0) dX11_laysFirst_115 rfl rfl ?_
    refine gs_X11_7 rfl dX11_laysFirst_116 hg St_399 ?_
    refine a_bipush dX11_laysFirst_119 (by decide) (by decide) ?_
    refine a_iload (k := 5) dX11_laysFirst_121 rfl ?_
    obtain ⟨q5, h⟩ := h
    refine a_imul dX11_laysFirst_123 q5 ?_
    obtain ⟨q6, h⟩ := h
    refine a_iaload dX11_laysFirst_124 (St_ho hg St_400) q6.1 q6.2 ?_
    obtain ⟨q7, h⟩ := h
    refine a_iadd dX11_laysFirst_125 q7 ?_
    obtain ⟨q8, h⟩ := h
    refine a_iaload dX11_laysFirst_126 (St_ho hg St_412) q8.1 q8.2 ?_
    refine b_istore (L' := [(0, .inr 399), (1, .inl v1), (4, .inl v4), (5, .inl v5), (6, .inl v6), (7, .inl v7), (8, .inl (μ 412 (((6 * v6) - 6) + (μ 400 (6 * v7)))))]) [1, 2, 3, 4, 5, 6, 0] dX11_laysFirst_127 (Nat.le_of_ble_eq_true rfl) rfl ?_
    refine a_iload (k := 5) dX11_laysFirst_129 rfl ?_
    refine a_iload (k := 3) dX11_laysFirst_131 rfl ?_
    refine a_icmp_eq (tgt := 215) dX11_laysFirst_133 (by decide) (fun c9 => ?_) (fun c9 => ?_)
    · replace h := h.1 c9
      obtain ⟨q10, h⟩ := h
      refine b_iinc (L' := [(0, .inr 399), (1, .inl v1), (4, .inl v4), (5, .inl v5), (6, .inl v6), (7, .inl (v7 + 1)), (8, .inl (μ 412 (((6 * v6) - 6) + (μ 400 (6 * v7)))))]) (k := 5) [1, 2, 3, 4, 5, 0, 6] dX11_laysFirst_215 rfl q10 (Nat.le_of_ble_eq_true rfl) rfl ?_
      refine a_goto (tgt := 94) dX11_laysFirst_218 (by decide) ?_
      refine a_sub [0, 1, 2, 3, 4, 5] rfl ?_
      exact h
    · replace h := h.2 c9
      refine a_aload_n (k := 0) dX11_laysFirst_136 rfl rfl ?_
      refine a_iload (k := 5) dX11_laysFirst_137 rfl ?_
      refine k_X11_120 rfl dX11_laysFirst_139 (Nat.le_of_ble_eq_true rfl) rfl (Nat.le_of_ble_eq_true rfl) (Nat.le_of_ble_eq_true rfl) (St_ho hg St_399) h (fun x11 n12 μ13 h => ?_)
      refine a_if_ne (tgt := 215) dX11_laysFirst_142 (by decide) (fun c14 => ?_) (fun c14 => ?_)
      · replace h := h.1 c14
        obtain ⟨q15, h⟩ := h
        refine b_iinc (L' := [(0, .inr 399), (1, .inl v1), (4, .inl v4), (5, .inl v5), (6, .inl v6), (7, .inl (v7 + 1)), (8, .inl (μ 412 (((6 * v6) - 6) + (μ 400 (6 * v7)))))]) (k := 5) [1, 2, 3, 4, 5, 0, 6] dX11_laysFirst_215 rfl q15 (Nat.le_of_ble_eq_true rfl) rfl ?_
        refine a_goto (tgt := 94) dX11_laysFirst_218 (by decide) ?_
        refine a_sub [0, 1, 2, 3, 4, 5] rfl ?_
        exact h
      · replace h := h.2 c14
        refine a_iload (k := 6) dX11_laysFirst_145 rfl ?_
        refine a_sipush dX11_laysFirst_147 (by decide) (by decide) ?_
        refine a_icmp_ge (tgt := 215) dX11_laysFirst_150 (by decide) (fun c16 => ?_) (fun c16 => ?_)
        · replace h := h.1 c16
          obtain ⟨q17, h⟩ := h
          refine b_iinc (L' := [(0, .inr 399), (1, .inl v1), (4, .inl v4), (5, .inl v5), (6, .inl v6), (7, .inl (v7 + 1)), (8, .inl (μ 412 (((6 * v6) - 6) + (μ 400 (6 * v7)))))]) (k := 5) [1, 2, 3, 4, 5, 0, 6] dX11_laysFirst_215 rfl q17 (Nat.le_of_ble_eq_true rfl) rfl ?_
          refine a_goto (tgt := 94) dX11_laysFirst_218 (by decide) ?_
          refine a_sub [0, 1, 2, 3, 4, 5] rfl ?_
          exact h
        · replace h := h.2 c16
          refine a_aload_n (k := 0) dX11_laysFirst_153 rfl rfl ?_
          refine a_iload_n (k := 1) dX11_laysFirst_154 rfl rfl ?_
          refine a_iload (k := 5) dX11_laysFirst_155 rfl ?_
          refine a_iload (k := 6) dX11_laysFirst_157 rfl ?_
          refine k_X11_151 rfl dX11_laysFirst_159 (Nat.le_of_ble_eq_true rfl) rfl (Nat.le_of_ble_eq_true rfl) (Nat.le_of_ble_eq_true rfl) (St_ho hg St_399) h (fun x18 n19 μ20 h => ?_)
          refine b_istore (L' := [(0, .inr 399), (1, .inl v1), (4, .inl v4), (5, .inl v5), (6, .inl v6), (7, .inl v7), (8, .inl (μ 412 (((6 * v6) - 6) + (μ 400 (6 * v7))))), (9, .inl x18)]) [1, 2, 3, 4, 5, 6, 7, 0] dX11_laysFirst_162 (Nat.le_of_ble_eq_true rfl) rfl ?_
          refine a_bipush dX11_laysFirst_164 (by decide) (by decide) ?_
          refine a_iload (k := 4) dX11_laysFirst_166 rfl ?_
          obtain ⟨q21, h⟩ := h
          refine a_imul dX11_laysFirst_168 q21 ?_
          refine a_aload_n (k := 0) dX11_laysFirst_169 rfl rfl ?_
          refine gs_X11_7 rfl dX11_laysFirst_170 hg St_399 ?_
          refine a_bipush dX11_laysFirst_173 (by decide) (by decide) ?_
          refine a_iload (k := 5) dX11_laysFirst_175 rfl ?_
          obtain ⟨q22, h⟩ := h
          refine a_imul dX11_laysFirst_177 q22 ?_
          refine a_iconst dX11_laysFirst_178 (by decide) ?_
          obtain ⟨q23, h⟩ := h
          refine a_iadd dX11_laysFirst_179 q23 ?_
          obtain ⟨q24, h⟩ := h
          refine a_iaload dX11_laysFirst_180 (St_ho hg St_400) q24.1 q24.2 ?_
          obtain ⟨q25, h⟩ := h
          refine a_iadd dX11_laysFirst_181 q25 ?_
          refine b_istore (L' := [(0, .inr 399), (1, .inl v1), (4, .inl v4), (5, .inl v5), (6, .inl v6), (7, .inl v7), (8, .inl (μ 412 (((6 * v6) - 6) + (μ 400 (6 * v7))))), (9, .inl x18), (10, .inl ((6 * v6) + (μ20 400 ((6 * v7) + 1))))]) [1, 2, 3, 4, 5, 6, 7, 8, 0] dX11_laysFirst_182 (Nat.le_of_ble_eq_true rfl) rfl ?_
          refine a_aload_n (k := 0) dX11_laysFirst_184 rfl rfl ?_
          refine gs_X11_47 rfl dX11_laysFirst_185 hg St_399 ?_
          refine a_iload (k := 8) dX11_laysFirst_188 rfl ?_
          refine a_iload (k := 7) dX11_laysFirst_190 rfl ?_
          refine a_aload_n (k := 0) dX11_laysFirst_192 rfl rfl ?_
          refine gs_X11_47 rfl dX11_laysFirst_193 hg St_399 ?_
          refine a_iload (k := 8) dX11_laysFirst_196 rfl ?_
          obtain ⟨q26, h⟩ := h
          refine a_iaload dX11_laysFirst_198 (St_ho hg St_412) q26.1 q26.2 ?_
          refine a_icmp_ge (tgt := 207) dX11_laysFirst_199 (by decide) (fun c27 => ?_) (fun c27 => ?_)
          · replace h := h.1 c27
            refine a_aload_n (k := 0) dX11_laysFirst_207 rfl rfl ?_
            refine gs_X11_47 rfl dX11_laysFirst_208 hg St_399 ?_
            refine a_iload (k := 8) dX11_laysFirst_211 rfl ?_
            obtain ⟨q28, h⟩ := h
            refine a_iaload dX11_laysFirst_213 (St_ho hg St_412) q28.1 q28.2 ?_
            obtain ⟨q29, h⟩ := h
            refine a_iastore dX11_laysFirst_214 (St_ho hg St_412) q29.1 q29.2 (FX_put hg St_412 rfl) ?_
            obtain ⟨q30, h⟩ := h
            refine b_iinc (L' := [(0, .inr 399), (1, .inl v1), (4, .inl v4), (5, .inl v5), (6, .inl v6), (7, .inl (v7 + 1)), (8, .inl (μ 412 (((6 * v6) - 6) + (μ 400 (6 * v7))))), (9, .inl x18), (10, .inl ((6 * v6) + (μ20 400 ((6 * v7) + 1))))]) (k := 5) [1, 2, 3, 4, 5, 0, 6, 7, 8] dX11_laysFirst_215 rfl q30 (Nat.le_of_ble_eq_true rfl) rfl ?_
            refine a_goto (tgt := 94) dX11_laysFirst_218 (by decide) ?_
            refine a_sub [0, 1, 2, 3, 4, 5] rfl ?_
            exact h
          · replace h := h.2 c27
            refine a_iload (k := 7) dX11_laysFirst_202 rfl ?_
            refine a_goto (tgt := 214) dX11_laysFirst_204 (by decide) ?_
            obtain ⟨q31, h⟩ := h
            refine a_iastore dX11_laysFirst_214 (St_ho hg St_412) q31.1 q31.2 (FX_put hg St_412 rfl) ?_
            obtain ⟨q32, h⟩ := h
            refine b_iinc (L' := [(0, .inr 399), (1, .inl v1), (4, .inl v4), (5, .inl v5), (6, .inl v6), (7, .inl (v7 + 1)), (8, .inl (μ 412 (((6 * v6) - 6) + (μ 400 (6 * v7))))), (9, .inl x18), (10, .inl ((6 * v6) + (μ20 400 ((6 * v7) + 1))))]) (k := 5) [1, 2, 3, 4, 5, 0, 6, 7, 8] dX11_laysFirst_215 rfl q32 (Nat.le_of_ble_eq_true rfl) rfl ?_
            refine a_goto (tgt := 94) dX11_laysFirst_218 (by decide) ?_
            refine a_sub [0, 1, 2, 3, 4, 5] rfl ?_
            exact h
theorem m_X11_leadsThere {G : GT} (hg : gx G = FX) {n : Nat} {μ : Mem} {Q : Int → Nat → Mem → Prop} {v1 v2 v3 v4 v5 v6 : Int}  (h : (CV G Y_X11_laysFirst [.inr 399, .inl v1, .inl v2, .inl v3, .inl v4, .inl (-9)] n μ (fun (n2 : Nat) (μ3 : Mem) => ((inR (6 * v4)) ∧ ((inR ((6 * v4) + v5)) ∧ (((0 : Int) ≤ (6 * v4) + v5 ∧ (6 * v4) + v5 < 36) ∧ ((¬ ((μ3 412 ((6 * v4) + v5)) = v6) → (Q 0 n2 μ3)) ∧ ((μ3 412 ((6 * v4) + v5)) = v6 → (Q 1 n2 μ3))))))))) : CI G Y_X11_leadsThere [.inr 399, .inl v1, .inl v2, .inl v3, .inl v4, .inl v5, .inl v6] n μ Q := by
  refine e_I (by decide) (Nat.le_of_ble_eq_true rfl) ?_
  show Wa G Y_X11_leadsThere (ZI G Y_X11_leadsThere Q) 0 0 n μ 0 [(0, .inr 399), (1, .inl v1), (2, .inl v2), (3, .inl v3), (4, .inl v4), (5, .inl v5), (6, .inl v6)] []
  refine a_aload_n (k := 0) dX11_leadsThere_0 rfl rfl ?_
  refine a_iload_n (k := 1) dX11_leadsThere_1 rfl rfl ?_
  refine a_iload_n (k := 2) dX11_leadsThere_2 rfl rfl ?_
  refine a_iload_n (k := 3) dX11_leadsThere_3 rfl rfl ?_
  refine a_iload (k := 4) dX11_leadsThere_4 rfl ?_
  refine a_bipush dX11_leadsThere_6 (by decide) (by decide) ?_
  refine k_X11_154 rfl dX11_leadsThere_8 (Nat.le_of_ble_eq_true rfl) rfl (Nat.le_of_ble_eq_true rfl) (Nat.le_of_ble_eq_true rfl) (St_ho hg St_399) h (fun n2 μ3 h => ?_)
  refine a_aload_n (k := 0) dX11_leadsThere_11 rfl rfl ?_
  refine gs_X11_47 rfl dX11_leadsThere_12 hg St_399 ?_
  refine a_bipush dX11_leadsThere_15 (by decide) (by decide) ?_
  refine a_iload (k := 4) dX11_leadsThere_17 rfl ?_
  obtain ⟨q4, h⟩ := h
  refine a_imul dX11_leadsThere_19 q4 ?_
  refine a_iload (k := 5) dX11_leadsThere_20 rfl ?_
  obtain ⟨q5, h⟩ := h
  refine a_iadd dX11_leadsThere_22 q5 ?_
  obtain ⟨q6, h⟩ := h
  refine a_iaload dX11_leadsThere_23 (St_ho hg St_412) q6.1 q6.2 ?_
  refine a_iload (k := 6) dX11_leadsThere_24 rfl ?_
  refine a_icmp_ne (tgt := 33) dX11_leadsThere_26 (by decide) (fun c7 => ?_) (fun c7 => ?_)
  · replace h := h.1 c7
    refine a_iconst dX11_leadsThere_33 (by decide) ?_
    exact a_zret dX11_leadsThere_34 rfl (Nat.le_of_ble_eq_true rfl) (Nat.le_of_ble_eq_true rfl) (by decide) h
  · replace h := h.2 c7
    refine a_iconst dX11_leadsThere_29 (by decide) ?_
    refine a_goto (tgt := 34) dX11_leadsThere_30 (by decide) ?_
    exact a_zret dX11_leadsThere_34 rfl (Nat.le_of_ble_eq_true rfl) (Nat.le_of_ble_eq_true rfl) (by decide) h
abbrev B_X11_findsEnd_29 (G : GT) (Q : Int → Nat → Mem → Prop) (n : Nat) (μ : Mem) (v4 : Int) : Prop := Wa G Y_X11_findsEnd (ZI G Y_X11_findsEnd Q) 0 0 n μ 29 [(0, .inr 399), (4, .inl v4)] []
abbrev B_X11_findsEnd_74 (G : GT) (Q : Int → Nat → Mem → Prop) (n : Nat) (μ : Mem) : Prop := Wa G Y_X11_findsEnd (ZI G Y_X11_findsEnd Q) 0 0 n μ 74 [(0, .inr 399)] []
theorem m_X11_findsEnd {G : GT} (hg : gx G = FX) {n : Nat} {μ : Mem} {Q : Int → Nat → Mem → Prop} {v1 v2 v3 v4 v5 : Int}  (h : (CV G Y_X11_laysFirst [.inr 399, .inl v1, .inl v2, .inl v3, .inl 5, .inl v5] n μ (fun (n2 : Nat) (μ3 : Mem) => ((inR (30 + v4)) ∧ (((0 : Int) ≤ 30 + v4 ∧ 30 + v4 < 36) ∧ (B_X11_findsEnd_29 G Q n2 (up (up μ3 399 27 (μ3 412 (30 + v4))) 399 24 5) v4)))))) : CI G Y_X11_findsEnd [.inr 399, .inl v1, .inl v2, .inl v3, .inl v4, .inl v5] n μ Q := by
  refine e_I (by decide) (Nat.le_of_ble_eq_true rfl) ?_
  show Wa G Y_X11_findsEnd (ZI G Y_X11_findsEnd Q) 0 0 n μ 0 [(0, .inr 399), (1, .inl v1), (2, .inl v2), (3, .inl v3), (4, .inl v4), (5, .inl v5)] []
  refine a_aload_n (k := 0) dX11_findsEnd_0 rfl rfl ?_
  refine a_iload_n (k := 1) dX11_findsEnd_1 rfl rfl ?_
  refine a_iload_n (k := 2) dX11_findsEnd_2 rfl rfl ?_
  refine a_iload_n (k := 3) dX11_findsEnd_3 rfl rfl ?_
  refine a_iconst dX11_findsEnd_4 (by decide) ?_
  refine a_iload (k := 5) dX11_findsEnd_5 rfl ?_
  refine k_X11_154 rfl dX11_findsEnd_7 (Nat.le_of_ble_eq_true rfl) rfl (Nat.le_of_ble_eq_true rfl) (Nat.le_of_ble_eq_true rfl) (St_ho hg St_399) h (fun n2 μ3 h => ?_)
  refine a_aload_n (k := 0) dX11_findsEnd_10 rfl rfl ?_
  refine a_aload_n (k := 0) dX11_findsEnd_11 rfl rfl ?_
  refine gs_X11_47 rfl dX11_findsEnd_12 hg St_399 ?_
  refine a_bipush dX11_findsEnd_15 (by decide) (by decide) ?_
  refine a_iload (k := 4) dX11_findsEnd_17 rfl ?_
  obtain ⟨q4, h⟩ := h
  refine a_iadd dX11_findsEnd_19 q4 ?_
  obtain ⟨q5, h⟩ := h
  refine a_iaload dX11_findsEnd_20 (St_ho hg St_412) q5.1 q5.2 ?_
  refine p_X11_158 rfl dX11_findsEnd_21 (St_ho hg St_399) (FX_put hg St_399 rfl) ?_
  refine a_aload_n (k := 0) dX11_findsEnd_24 rfl rfl ?_
  refine a_iconst dX11_findsEnd_25 (by decide) ?_
  refine p_X11_161 rfl dX11_findsEnd_26 (St_ho hg St_399) (FX_put hg St_399 rfl) ?_
  refine a_sub [0, 4] rfl ?_
  exact h
theorem b_X11_findsEnd_29 {G : GT} (hg : gx G = FX) {n : Nat} {μ : Mem} {Q : Int → Nat → Mem → Prop} {v4 : Int}  (h : (((μ 399 24) ≤ 0 → (B_X11_findsEnd_74 G Q n μ)) ∧ (¬ ((μ 399 24) ≤ 0) → ((inR (6 * (μ 399 24))) ∧ ((inR ((6 * (μ 399 24)) - 6)) ∧ ((inR (((6 * (μ 399 24)) - 6) + v4)) ∧ (((0 : Int) ≤ ((6 * (μ 399 24)) - 6) + v4 ∧ ((6 * (μ 399 24)) - 6) + v4 < 36) ∧ ((¬ ((μ 412 (((6 * (μ 399 24)) - 6) + v4)) = (μ 399 27)) → (B_X11_findsEnd_74 G Q n μ)) ∧ ((μ 412 (((6 * (μ 399 24)) - 6) + v4)) = (μ 399 27) → ((inR ((μ 399 24) - 1)) ∧ (B_X11_findsEnd_29 G Q n (up μ 399 24 ((μ 399 24) - 1)) v4))))))))))) : B_X11_findsEnd_29 G Q n μ v4 := by
  show Wa G Y_X11_findsEnd (ZI G Y_X11_findsEnd Q) 0 0 n μ 29 [(0, .inr 399), (4, .inl v4)] []
  refine a_aload_n (k := 0) dX11_findsEnd_29 rfl rfl ?_
  refine g_X11_161 rfl dX11_findsEnd_30 (St_ho hg St_399) ?_
  refine a_if_le (tgt := 74) dX11_findsEnd_33 (by decide) (fun c1 => ?_) (fun c1 => ?_)
  · replace h := h.1 c1
    refine a_sub [0] rfl ?_
    exact h
  · replace h := h.2 c1
    refine a_aload_n (k := 0) dX11_findsEnd_36 rfl rfl ?_
    refine gs_X11_47 rfl dX11_findsEnd_37 hg St_399 ?_
    refine a_bipush dX11_findsEnd_40 (by decide) (by decide) ?_
    refine a_aload_n (k := 0) dX11_findsEnd_42 rfl rfl ?_
    refine g_X11_161 rfl dX11_findsEnd_43 (St_ho hg St_399) ?_
    obtain ⟨q2, h⟩ := h
    refine a_imul dX11_findsEnd_46 q2 ?_
    refine a_bipush dX11_findsEnd_47 (by decide) (by decide) ?_
    obtain ⟨q3, h⟩ := h
    refine a_isub dX11_findsEnd_49 q3 ?_
    refine a_iload (k := 1) dX11_findsEnd_50 rfl ?_
    obtain ⟨q4, h⟩ := h
    refine a_iadd dX11_findsEnd_52 q4 ?_
    obtain ⟨q5, h⟩ := h
    refine a_iaload dX11_findsEnd_53 (St_ho hg St_412) q5.1 q5.2 ?_
    refine a_aload_n (k := 0) dX11_findsEnd_54 rfl rfl ?_
    refine g_X11_158 rfl dX11_findsEnd_55 (St_ho hg St_399) ?_
    refine a_icmp_ne (tgt := 74) dX11_findsEnd_58 (by decide) (fun c6 => ?_) (fun c6 => ?_)
    · replace h := h.1 c6
      refine a_sub [0] rfl ?_
      exact h
    · replace h := h.2 c6
      refine a_aload_n (k := 0) dX11_findsEnd_61 rfl rfl ?_
      refine a_dup dX11_findsEnd_62 ?_
      refine g_X11_161 rfl dX11_findsEnd_63 (St_ho hg St_399) ?_
      refine a_iconst dX11_findsEnd_66 (by decide) ?_
      obtain ⟨q7, h⟩ := h
      refine a_isub dX11_findsEnd_67 q7 ?_
      refine p_X11_161 rfl dX11_findsEnd_68 (St_ho hg St_399) (FX_put hg St_399 rfl) ?_
      refine a_goto (tgt := 29) dX11_findsEnd_71 (by decide) ?_
      exact h
theorem b_X11_findsEnd_74 {G : GT} (hg : gx G = FX) {n : Nat} {μ : Mem} {Q : Int → Nat → Mem → Prop}  (h : ((9999 ≤ (μ 399 27) → (Q 0 n μ)) ∧ (¬ (9999 ≤ (μ 399 27)) → (Q 1 n μ)))) : B_X11_findsEnd_74 G Q n μ := by
  show Wa G Y_X11_findsEnd (ZI G Y_X11_findsEnd Q) 0 0 n μ 74 [(0, .inr 399)] []
  refine a_aload_n (k := 0) dX11_findsEnd_74 rfl rfl ?_
  refine g_X11_158 rfl dX11_findsEnd_75 (St_ho hg St_399) ?_
  refine a_sipush dX11_findsEnd_78 (by decide) (by decide) ?_
  refine a_icmp_ge (tgt := 88) dX11_findsEnd_81 (by decide) (fun c1 => ?_) (fun c1 => ?_)
  · replace h := h.1 c1
    refine a_iconst dX11_findsEnd_88 (by decide) ?_
    exact a_zret dX11_findsEnd_89 rfl (Nat.le_of_ble_eq_true rfl) (Nat.le_of_ble_eq_true rfl) (by decide) h
  · replace h := h.2 c1
    refine a_iconst dX11_findsEnd_84 (by decide) ?_
    refine a_goto (tgt := 89) dX11_findsEnd_85 (by decide) ?_
    exact a_zret dX11_findsEnd_89 rfl (Nat.le_of_ble_eq_true rfl) (Nat.le_of_ble_eq_true rfl) (by decide) h
abbrev B_X11_findsWay_9 (G : GT) (Q : Nat → Mem → Prop) (n : Nat) (μ : Mem) (v1 : Int) (v4 : Int) (v5 : Int) (v6 : Int) (v7 : Int) : Prop := Wa G Y_X11_findsWay (ZV G Y_X11_findsWay Q) 0 0 n μ 9 [(0, .inr 399), (1, .inl v1), (4, .inl v4), (5, .inl v5), (6, .inl v6), (7, .inl v7)] []
abbrev B_X11_findsWay_24 (G : GT) (Q : Nat → Mem → Prop) (n : Nat) (μ : Mem) (v1 : Int) (v4 : Int) (v5 : Int) (v6 : Int) (v7 : Int) (v8 : Int) (v9 : Int) : Prop := Wa G Y_X11_findsWay (ZV G Y_X11_findsWay Q) 0 0 n μ 24 [(0, .inr 399), (1, .inl v1), (4, .inl v4), (5, .inl v5), (6, .inl v6), (7, .inl v7), (8, .inl v8), (9, .inl v9)] []
abbrev B_X11_findsWay_65 (G : GT) (Q : Nat → Mem → Prop) (n : Nat) (μ : Mem) (v1 : Int) (v4 : Int) (v5 : Int) (v6 : Int) (v7 : Int) (v8 : Int) : Prop := Wa G Y_X11_findsWay (ZV G Y_X11_findsWay Q) 0 0 n μ 65 [(0, .inr 399), (1, .inl v1), (4, .inl v4), (5, .inl v5), (6, .inl v6), (7, .inl v7), (8, .inl v8)] []
abbrev B_X11_findsWay_68 (G : GT) (Q : Nat → Mem → Prop) (n : Nat) (μ : Mem) (v1 : Int) (v4 : Int) (v5 : Int) (v6 : Int) (v7 : Int) (v8 : Int) (u0 : Int) : Prop := Wa G Y_X11_findsWay (ZV G Y_X11_findsWay Q) 0 0 n μ 68 [(0, .inr 399), (1, .inl v1), (4, .inl v4), (5, .inl v5), (6, .inl v6), (7, .inl v7), (8, .inl v8)] [.inl u0]
abbrev B_X11_findsWay_119 (G : GT) (Q : Nat → Mem → Prop) (n : Nat) (μ : Mem) (v1 : Int) (v4 : Int) (v5 : Int) (v6 : Int) (v7 : Int) (v8 : Int) : Prop := Wa G Y_X11_findsWay (ZV G Y_X11_findsWay Q) 0 0 n μ 119 [(0, .inr 399), (1, .inl v1), (4, .inl v4), (5, .inl v5), (6, .inl v6), (7, .inl v7), (8, .inl v8)] []
abbrev B_X11_findsWay_120 (G : GT) (Q : Nat → Mem → Prop) (n : Nat) (μ : Mem) (v1 : Int) (v4 : Int) (v5 : Int) (v6 : Int) (v7 : Int) (v8 : Int) (u0 : Int) : Prop := Wa G Y_X11_findsWay (ZV G Y_X11_findsWay Q) 0 0 n μ 120 [(0, .inr 399), (1, .inl v1), (4, .inl v4), (5, .inl v5), (6, .inl v6), (7, .inl v7), (8, .inl v8)] [.inl u0]
theorem m_X11_findsWay {G : GT} (hg : gx G = FX) {n : Nat} {μ : Mem} {Q : Nat → Mem → Prop} {v1 v2 v3 v4 : Int}  (h : (B_X11_findsWay_9 G Q n μ v1 v4 v2 v3 0)) : CV G Y_X11_findsWay [.inr 399, .inl v1, .inl v2, .inl v3, .inl v4] n μ Q := by
  refine e_V (by decide) (Nat.le_of_ble_eq_true rfl) ?_
  show Wa G Y_X11_findsWay (ZV G Y_X11_findsWay Q) 0 0 n μ 0 [(0, .inr 399), (1, .inl v1), (2, .inl v2), (3, .inl v3), (4, .inl v4)] []
  refine a_iload_n (k := 2) dX11_findsWay_0 rfl rfl ?_
  refine b_istore (L' := [(0, .inr 399), (1, .inl v1), (2, .inl v2), (3, .inl v3), (4, .inl v4), (5, .inl v2)]) [1, 2, 3, 4, 5, 0] dX11_findsWay_1 (Nat.le_of_ble_eq_true rfl) rfl ?_
  refine a_iload_n (k := 3) dX11_findsWay_3 rfl rfl ?_
  refine b_istore (L' := [(0, .inr 399), (1, .inl v1), (2, .inl v2), (3, .inl v3), (4, .inl v4), (5, .inl v2), (6, .inl v3)]) [1, 2, 3, 4, 5, 6, 0] dX11_findsWay_4 (Nat.le_of_ble_eq_true rfl) rfl ?_
  refine a_iconst dX11_findsWay_6 (by decide) ?_
  refine b_istore (L' := [(0, .inr 399), (1, .inl v1), (2, .inl v2), (3, .inl v3), (4, .inl v4), (5, .inl v2), (6, .inl v3), (7, .inl 0)]) [1, 2, 3, 4, 5, 6, 7, 0] dX11_findsWay_7 (Nat.le_of_ble_eq_true rfl) rfl ?_
  refine a_sub [0, 1, 4, 5, 6, 7] rfl ?_
  exact h
theorem b_X11_findsWay_9 {G : GT} (hg : gx G = FX) {n : Nat} {μ : Mem} {Q : Nat → Mem → Prop} {v1 v4 v5 v6 v7 : Int}  (h : (((μ 399 24) ≤ v7 → (Q n μ)) ∧ (¬ ((μ 399 24) ≤ v7) → (B_X11_findsWay_24 G Q n μ v1 v4 v5 v6 v7 0 0)))) : B_X11_findsWay_9 G Q n μ v1 v4 v5 v6 v7 := by
  show Wa G Y_X11_findsWay (ZV G Y_X11_findsWay Q) 0 0 n μ 9 [(0, .inr 399), (1, .inl v1), (4, .inl v4), (5, .inl v5), (6, .inl v6), (7, .inl v7)] []
  refine a_iload (k := 5) dX11_findsWay_9 rfl ?_
  refine a_aload_n (k := 0) dX11_findsWay_11 rfl rfl ?_
  refine g_X11_161 rfl dX11_findsWay_12 (St_ho hg St_399) ?_
  refine a_icmp_ge (tgt := 196) dX11_findsWay_15 (by decide) (fun c1 => ?_) (fun c1 => ?_)
  · replace h := h.1 c1
    exact a_ret dX11_findsWay_196 rfl (Nat.le_of_ble_eq_true rfl) (Nat.le_of_ble_eq_true rfl) h
  · replace h := h.2 c1
    refine a_iconst dX11_findsWay_18 (by decide) ?_
    refine b_istore (L' := [(0, .inr 399), (1, .inl v1), (4, .inl v4), (5, .inl v5), (6, .inl v6), (7, .inl v7), (8, .inl 0)]) [1, 2, 3, 4, 5, 6, 0] dX11_findsWay_19 (Nat.le_of_ble_eq_true rfl) rfl ?_
    refine a_iconst dX11_findsWay_21 (by decide) ?_
    refine b_istore (L' := [(0, .inr 399), (1, .inl v1), (4, .inl v4), (5, .inl v5), (6, .inl v6), (7, .inl v7), (8, .inl 0), (9, .inl 0)]) [1, 2, 3, 4, 5, 6, 7, 0] dX11_findsWay_22 (Nat.le_of_ble_eq_true rfl) rfl ?_
    exact h
theorem b_X11_findsWay_24 {G : GT} (hg : gx G = FX) {n : Nat} {μ : Mem} {Q : Nat → Mem → Prop} {v1 v4 v5 v6 v7 v8 v9 : Int}  (h : ((¬ (v9 = 0) → (((0 : Int) ≤ v7 ∧ v7 < 5) ∧ (CI G Y_X11_beginsAt [.inr 399, .inl v1, .inl v8, .inl v6] n (up μ 413 v7 v8) (fun (x3 : Int) (n4 : Nat) (μ5 : Mem) => (((0 : Int) ≤ v7 ∧ v7 < 5) ∧ (CI G Y_X11_endsAt [.inr 399, .inl v1, .inl v8, .inl v6] n4 (up μ5 414 v7 x3) (fun (x7 : Int) (n8 : Nat) (μ9 : Mem) => ((inR (6 * v8)) ∧ ((inR ((6 * v8) + 1)) ∧ (((0 : Int) ≤ (6 * v8) + 1 ∧ (6 * v8) + 1 < 48) ∧ ((inR (v7 + 1)) ∧ (B_X11_findsWay_9 G Q n8 μ9 v1 v4 (μ9 400 ((6 * v8) + 1)) x7 (v7 + 1))))))))))))) ∧ (v9 = 0 → ((inR (6 * v8)) ∧ (((0 : Int) ≤ 6 * v8 ∧ 6 * v8 < 48) ∧ ((¬ ((μ 400 (6 * v8)) = v5) → (B_X11_findsWay_65 G Q n μ v1 v4 v5 v6 v7 v8)) ∧ ((μ 400 (6 * v8)) = v5 → (CI G Y_X11_isMissed [.inr 399, .inl v8] n μ (fun (x17 : Int) (n18 : Nat) (μ19 : Mem) => ((¬ (x17 = 0) → (B_X11_findsWay_65 G Q n18 μ19 v1 v4 v5 v6 v7 v8)) ∧ (x17 = 0 → (CI G Y_X11_endsAt [.inr 399, .inl v1, .inl v8, .inl v6] n18 μ19 (fun (x21 : Int) (n22 : Nat) (μ23 : Mem) => (B_X11_findsWay_68 G Q n22 μ23 v1 v4 v5 v6 v7 v8 x21)))))))))))))) : B_X11_findsWay_24 G Q n μ v1 v4 v5 v6 v7 v8 v9 := by
  show Wa G Y_X11_findsWay (ZV G Y_X11_findsWay Q) 0 0 n μ 24 [(0, .inr 399), (1, .inl v1), (4, .inl v4), (5, .inl v5), (6, .inl v6), (7, .inl v7), (8, .inl v8), (9, .inl v9)] []
  refine a_iload (k := 7) dX11_findsWay_24 rfl ?_
  refine a_if_ne (tgt := 140) dX11_findsWay_26 (by decide) (fun c1 => ?_) (fun c1 => ?_)
  · replace h := h.1 c1
    refine a_aload_n (k := 0) dX11_findsWay_140 rfl rfl ?_
    refine gs_X11_50 rfl dX11_findsWay_141 hg St_399 ?_
    refine a_iload (k := 5) dX11_findsWay_144 rfl ?_
    refine a_iload (k := 6) dX11_findsWay_146 rfl ?_
    obtain ⟨q2, h⟩ := h
    refine a_iastore dX11_findsWay_148 (St_ho hg St_413) q2.1 q2.2 (FX_put hg St_413 rfl) ?_
    refine a_aload_n (k := 0) dX11_findsWay_149 rfl rfl ?_
    refine gs_X11_53 rfl dX11_findsWay_150 hg St_399 ?_
    refine a_iload (k := 5) dX11_findsWay_153 rfl ?_
    refine a_aload_n (k := 0) dX11_findsWay_155 rfl rfl ?_
    refine a_iload_n (k := 1) dX11_findsWay_156 rfl rfl ?_
    refine a_iload (k := 6) dX11_findsWay_157 rfl ?_
    refine a_iload (k := 4) dX11_findsWay_159 rfl ?_
    refine k_X11_147 rfl dX11_findsWay_161 (Nat.le_of_ble_eq_true rfl) rfl (Nat.le_of_ble_eq_true rfl) (Nat.le_of_ble_eq_true rfl) (St_ho hg St_399) h (fun x3 n4 μ5 h => ?_)
    obtain ⟨q6, h⟩ := h
    refine a_iastore dX11_findsWay_164 (St_ho hg St_414) q6.1 q6.2 (FX_put hg St_414 rfl) ?_
    refine a_aload_n (k := 0) dX11_findsWay_165 rfl rfl ?_
    refine a_iload_n (k := 1) dX11_findsWay_166 rfl rfl ?_
    refine a_iload (k := 6) dX11_findsWay_167 rfl ?_
    refine a_iload (k := 4) dX11_findsWay_169 rfl ?_
    refine k_X11_151 rfl dX11_findsWay_171 (Nat.le_of_ble_eq_true rfl) rfl (Nat.le_of_ble_eq_true rfl) (Nat.le_of_ble_eq_true rfl) (St_ho hg St_399) h (fun x7 n8 μ9 h => ?_)
    refine b_istore (L' := [(0, .inr 399), (1, .inl v1), (4, .inl v4), (5, .inl v5), (6, .inl x7), (7, .inl v7), (8, .inl v8), (9, .inl v9)]) [1, 2, 3, 4, 0, 5, 6, 7] dX11_findsWay_174 (Nat.le_of_ble_eq_true rfl) rfl ?_
    refine a_aload_n (k := 0) dX11_findsWay_176 rfl rfl ?_
    refine gs_X11_7 rfl dX11_findsWay_177 hg St_399 ?_
    refine a_bipush dX11_findsWay_180 (by decide) (by decide) ?_
    refine a_iload (k := 6) dX11_findsWay_182 rfl ?_
    obtain ⟨q10, h⟩ := h
    refine a_imul dX11_findsWay_184 q10 ?_
    refine a_iconst dX11_findsWay_185 (by decide) ?_
    obtain ⟨q11, h⟩ := h
    refine a_iadd dX11_findsWay_186 q11 ?_
    obtain ⟨q12, h⟩ := h
    refine a_iaload dX11_findsWay_187 (St_ho hg St_400) q12.1 q12.2 ?_
    refine b_istore (L' := [(0, .inr 399), (1, .inl v1), (4, .inl v4), (5, .inl (μ9 400 ((6 * v8) + 1))), (6, .inl x7), (7, .inl v7), (8, .inl v8), (9, .inl v9)]) [1, 2, 3, 0, 4, 5, 6, 7] dX11_findsWay_188 (Nat.le_of_ble_eq_true rfl) rfl ?_
    obtain ⟨q13, h⟩ := h
    refine b_iinc (L' := [(0, .inr 399), (1, .inl v1), (4, .inl v4), (5, .inl (μ9 400 ((6 * v8) + 1))), (6, .inl x7), (7, .inl (v7 + 1)), (8, .inl v8), (9, .inl v9)]) (k := 5) [1, 2, 3, 4, 5, 0, 6, 7] dX11_findsWay_190 rfl q13 (Nat.le_of_ble_eq_true rfl) rfl ?_
    refine a_goto (tgt := 9) dX11_findsWay_193 (by decide) ?_
    refine a_sub [0, 1, 2, 3, 4, 5] rfl ?_
    exact h
  · replace h := h.2 c1
    refine a_aload_n (k := 0) dX11_findsWay_29 rfl rfl ?_
    refine gs_X11_7 rfl dX11_findsWay_30 hg St_399 ?_
    refine a_bipush dX11_findsWay_33 (by decide) (by decide) ?_
    refine a_iload (k := 6) dX11_findsWay_35 rfl ?_
    obtain ⟨q14, h⟩ := h
    refine a_imul dX11_findsWay_37 q14 ?_
    obtain ⟨q15, h⟩ := h
    refine a_iaload dX11_findsWay_38 (St_ho hg St_400) q15.1 q15.2 ?_
    refine a_iload (k := 3) dX11_findsWay_39 rfl ?_
    refine a_icmp_ne (tgt := 65) dX11_findsWay_41 (by decide) (fun c16 => ?_) (fun c16 => ?_)
    · replace h := h.1 c16
      refine a_sub [0, 1, 2, 3, 4, 5, 6] rfl ?_
      exact h
    · replace h := h.2 c16
      refine a_aload_n (k := 0) dX11_findsWay_44 rfl rfl ?_
      refine a_iload (k := 6) dX11_findsWay_45 rfl ?_
      refine k_X11_120 rfl dX11_findsWay_47 (Nat.le_of_ble_eq_true rfl) rfl (Nat.le_of_ble_eq_true rfl) (Nat.le_of_ble_eq_true rfl) (St_ho hg St_399) h (fun x17 n18 μ19 h => ?_)
      refine a_if_ne (tgt := 65) dX11_findsWay_50 (by decide) (fun c20 => ?_) (fun c20 => ?_)
      · replace h := h.1 c20
        refine a_sub [0, 1, 2, 3, 4, 5, 6] rfl ?_
        exact h
      · replace h := h.2 c20
        refine a_aload_n (k := 0) dX11_findsWay_53 rfl rfl ?_
        refine a_iload_n (k := 1) dX11_findsWay_54 rfl rfl ?_
        refine a_iload (k := 6) dX11_findsWay_55 rfl ?_
        refine a_iload (k := 4) dX11_findsWay_57 rfl ?_
        refine k_X11_151 rfl dX11_findsWay_59 (Nat.le_of_ble_eq_true rfl) rfl (Nat.le_of_ble_eq_true rfl) (Nat.le_of_ble_eq_true rfl) (St_ho hg St_399) h (fun x21 n22 μ23 h => ?_)
        refine a_goto (tgt := 68) dX11_findsWay_62 (by decide) ?_
        refine a_sub [0, 1, 2, 3, 4, 5, 6] rfl ?_
        exact h
theorem b_X11_findsWay_65 {G : GT} (hg : gx G = FX) {n : Nat} {μ : Mem} {Q : Nat → Mem → Prop} {v1 v4 v5 v6 v7 v8 : Int}  (h : (B_X11_findsWay_68 G Q n μ v1 v4 v5 v6 v7 v8 9999)) : B_X11_findsWay_65 G Q n μ v1 v4 v5 v6 v7 v8 := by
  show Wa G Y_X11_findsWay (ZV G Y_X11_findsWay Q) 0 0 n μ 65 [(0, .inr 399), (1, .inl v1), (4, .inl v4), (5, .inl v5), (6, .inl v6), (7, .inl v7), (8, .inl v8)] []
  refine a_sipush dX11_findsWay_65 (by decide) (by decide) ?_
  exact h
theorem b_X11_findsWay_68 {G : GT} (hg : gx G = FX) {n : Nat} {μ : Mem} {Q : Nat → Mem → Prop} {v1 v4 v5 v6 v7 v8 u0 : Int}  (h : ((9999 ≤ u0 → (B_X11_findsWay_119 G Q n μ v1 v4 v5 v6 v7 v8)) ∧ (¬ (9999 ≤ u0) → ((inR (6 * v8)) ∧ ((inR ((6 * v8) + 1)) ∧ (((0 : Int) ≤ (6 * v8) + 1 ∧ (6 * v8) + 1 < 48) ∧ ((inR ((μ 399 24) - v7)) ∧ ((inR (((μ 399 24) - v7) - 1)) ∧ (CI G Y_X11_leadsThere [.inr 399, .inl v1, .inl (μ 400 ((6 * v8) + 1)), .inl u0, .inl (((μ 399 24) - v7) - 1), .inl v4, .inl (μ 399 27)] n μ (fun (x7 : Int) (n8 : Nat) (μ9 : Mem) => ((x7 = 0 → (B_X11_findsWay_119 G Q n8 μ9 v1 v4 v5 v6 v7 v8)) ∧ (¬ (x7 = 0) → (B_X11_findsWay_120 G Q n8 μ9 v1 v4 v5 v6 v7 v8 1))))))))))))) : B_X11_findsWay_68 G Q n μ v1 v4 v5 v6 v7 v8 u0 := by
  show Wa G Y_X11_findsWay (ZV G Y_X11_findsWay Q) 0 0 n μ 68 [(0, .inr 399), (1, .inl v1), (4, .inl v4), (5, .inl v5), (6, .inl v6), (7, .inl v7), (8, .inl v8)] [.inl u0]
  refine b_istore (L' := [(0, .inr 399), (1, .inl v1), (4, .inl v4), (5, .inl v5), (6, .inl v6), (7, .inl v7), (8, .inl v8), (10, .inl u0)]) [1, 2, 3, 4, 5, 6, 7, 0] dX11_findsWay_68 (Nat.le_of_ble_eq_true rfl) rfl ?_
  refine a_iload (k := 7) dX11_findsWay_70 rfl ?_
  refine a_sipush dX11_findsWay_72 (by decide) (by decide) ?_
  refine a_icmp_ge (tgt := 119) dX11_findsWay_75 (by decide) (fun c1 => ?_) (fun c1 => ?_)
  · replace h := h.1 c1
    refine a_sub [0, 1, 2, 3, 4, 5, 6] rfl ?_
    exact h
  · replace h := h.2 c1
    refine a_aload_n (k := 0) dX11_findsWay_78 rfl rfl ?_
    refine a_iload_n (k := 1) dX11_findsWay_79 rfl rfl ?_
    refine a_aload_n (k := 0) dX11_findsWay_80 rfl rfl ?_
    refine gs_X11_7 rfl dX11_findsWay_81 hg St_399 ?_
    refine a_bipush dX11_findsWay_84 (by decide) (by decide) ?_
    refine a_iload (k := 6) dX11_findsWay_86 rfl ?_
    obtain ⟨q2, h⟩ := h
    refine a_imul dX11_findsWay_88 q2 ?_
    refine a_iconst dX11_findsWay_89 (by decide) ?_
    obtain ⟨q3, h⟩ := h
    refine a_iadd dX11_findsWay_90 q3 ?_
    obtain ⟨q4, h⟩ := h
    refine a_iaload dX11_findsWay_91 (St_ho hg St_400) q4.1 q4.2 ?_
    refine a_iload (k := 7) dX11_findsWay_92 rfl ?_
    refine a_aload_n (k := 0) dX11_findsWay_94 rfl rfl ?_
    refine g_X11_161 rfl dX11_findsWay_95 (St_ho hg St_399) ?_
    refine a_iload (k := 5) dX11_findsWay_98 rfl ?_
    obtain ⟨q5, h⟩ := h
    refine a_isub dX11_findsWay_100 q5 ?_
    refine a_iconst dX11_findsWay_101 (by decide) ?_
    obtain ⟨q6, h⟩ := h
    refine a_isub dX11_findsWay_102 q6 ?_
    refine a_iload (k := 2) dX11_findsWay_103 rfl ?_
    refine a_aload_n (k := 0) dX11_findsWay_105 rfl rfl ?_
    refine g_X11_158 rfl dX11_findsWay_106 (St_ho hg St_399) ?_
    refine k_X11_164 rfl dX11_findsWay_109 (Nat.le_of_ble_eq_true rfl) rfl (Nat.le_of_ble_eq_true rfl) (Nat.le_of_ble_eq_true rfl) (St_ho hg St_399) h (fun x7 n8 μ9 h => ?_)
    refine a_if_eq (tgt := 119) dX11_findsWay_112 (by decide) (fun c10 => ?_) (fun c10 => ?_)
    · replace h := h.1 c10
      refine a_sub [0, 1, 2, 3, 4, 5, 6] rfl ?_
      exact h
    · replace h := h.2 c10
      refine a_iconst dX11_findsWay_115 (by decide) ?_
      refine a_goto (tgt := 120) dX11_findsWay_116 (by decide) ?_
      refine a_sub [0, 1, 2, 3, 4, 5, 6] rfl ?_
      exact h
theorem b_X11_findsWay_119 {G : GT} (hg : gx G = FX) {n : Nat} {μ : Mem} {Q : Nat → Mem → Prop} {v1 v4 v5 v6 v7 v8 : Int}  (h : (B_X11_findsWay_120 G Q n μ v1 v4 v5 v6 v7 v8 0)) : B_X11_findsWay_119 G Q n μ v1 v4 v5 v6 v7 v8 := by
  show Wa G Y_X11_findsWay (ZV G Y_X11_findsWay Q) 0 0 n μ 119 [(0, .inr 399), (1, .inl v1), (4, .inl v4), (5, .inl v5), (6, .inl v6), (7, .inl v7), (8, .inl v8)] []
  refine a_iconst dX11_findsWay_119 (by decide) ?_
  exact h
theorem b_X11_findsWay_120 {G : GT} (hg : gx G = FX) {n : Nat} {μ : Mem} {Q : Nat → Mem → Prop} {v1 v4 v5 v6 v7 v8 u0 : Int}  (h : ((u0 = 0 → ((inR (v8 + 1)) ∧ (B_X11_findsWay_24 G Q n μ v1 v4 v5 v6 v7 (v8 + 1) u0))) ∧ (¬ (u0 = 0) → ((inR (v8 + 0)) ∧ (B_X11_findsWay_24 G Q n μ v1 v4 v5 v6 v7 (v8 + 0) u0))))) : B_X11_findsWay_120 G Q n μ v1 v4 v5 v6 v7 v8 u0 := by
  show Wa G Y_X11_findsWay (ZV G Y_X11_findsWay Q) 0 0 n μ 120 [(0, .inr 399), (1, .inl v1), (4, .inl v4), (5, .inl v5), (6, .inl v6), (7, .inl v7), (8, .inl v8)] [.inl u0]
  refine b_istore (L' := [(0, .inr 399), (1, .inl v1), (4, .inl v4), (5, .inl v5), (6, .inl v6), (7, .inl v7), (8, .inl v8), (9, .inl u0)]) [1, 2, 3, 4, 5, 6, 7, 0] dX11_findsWay_120 (Nat.le_of_ble_eq_true rfl) rfl ?_
  refine a_iload (k := 6) dX11_findsWay_122 rfl ?_
  refine a_iload (k := 7) dX11_findsWay_124 rfl ?_
  refine a_if_eq (tgt := 133) dX11_findsWay_126 (by decide) (fun c1 => ?_) (fun c1 => ?_)
  · replace h := h.1 c1
    refine a_iconst dX11_findsWay_133 (by decide) ?_
    obtain ⟨q2, h⟩ := h
    refine a_iadd dX11_findsWay_134 q2 ?_
    refine b_istore (L' := [(0, .inr 399), (1, .inl v1), (4, .inl v4), (5, .inl v5), (6, .inl v6), (7, .inl v7), (8, .inl (v8 + 1)), (9, .inl u0)]) [1, 2, 3, 4, 5, 6, 0, 7] dX11_findsWay_135 (Nat.le_of_ble_eq_true rfl) rfl ?_
    refine a_goto (tgt := 24) dX11_findsWay_137 (by decide) ?_
    exact h
  · replace h := h.2 c1
    refine a_iconst dX11_findsWay_129 (by decide) ?_
    refine a_goto (tgt := 134) dX11_findsWay_130 (by decide) ?_
    obtain ⟨q3, h⟩ := h
    refine a_iadd dX11_findsWay_134 q3 ?_
    refine b_istore (L' := [(0, .inr 399), (1, .inl v1), (4, .inl v4), (5, .inl v5), (6, .inl v6), (7, .inl v7), (8, .inl (v8 + 0)), (9, .inl u0)]) [1, 2, 3, 4, 5, 6, 0, 7] dX11_findsWay_135 (Nat.le_of_ble_eq_true rfl) rfl ?_
    refine a_goto (tgt := 24) dX11_findsWay_137 (by decide) ?_
    exact h
theorem m_X11_has {G : GT} (hg : gx G = FX) {n : Nat} {μ : Mem} {Q : Int → Nat → Mem → Prop} {v0 v1 : Int}  (h : ((¬ ((iAnd (iShr v0 v1) 1) = 1) → (Q 0 n μ)) ∧ ((iAnd (iShr v0 v1) 1) = 1 → (Q 1 n μ)))) : CI G Y_X11_has [.inl v0, .inl v1] n μ Q := by
  refine e_I (by decide) (Nat.le_of_ble_eq_true rfl) ?_
  show Wa G Y_X11_has (ZI G Y_X11_has Q) 0 0 n μ 0 [(0, .inl v0), (1, .inl v1)] []
  refine a_iload_n (k := 0) dX11_has_0 rfl rfl ?_
  refine a_iload_n (k := 1) dX11_has_1 rfl rfl ?_
  refine a_ishr dX11_has_2 ?_
  refine a_iconst dX11_has_3 (by decide) ?_
  refine a_iand dX11_has_4 ?_
  refine a_iconst dX11_has_5 (by decide) ?_
  refine a_icmp_ne (tgt := 13) dX11_has_6 (by decide) (fun c1 => ?_) (fun c1 => ?_)
  · replace h := h.1 c1
    refine a_iconst dX11_has_13 (by decide) ?_
    exact a_zret dX11_has_14 rfl (Nat.le_of_ble_eq_true rfl) (Nat.le_of_ble_eq_true rfl) (by decide) h
  · replace h := h.2 c1
    refine a_iconst dX11_has_9 (by decide) ?_
    refine a_goto (tgt := 14) dX11_has_10 (by decide) ?_
    exact a_zret dX11_has_14 rfl (Nat.le_of_ble_eq_true rfl) (Nat.le_of_ble_eq_true rfl) (by decide) h
theorem m_X11_givesUp {G : GT} (hg : gx G = FX) {n : Nat} {μ : Mem} {Q : Nat → Mem → Prop} {v1 : Int}  (h : (CI G Y_X11_at [.inl v1] n μ (fun (x1 : Int) (n2 : Nat) (μ3 : Mem) => ((inR (x1 + 9)) ∧ (((0 : Int) ≤ x1 + 9 ∧ x1 + 9 < 163) ∧ (Q n2 (up μ3 402 (x1 + 9) 0))))))) : CV G Y_X11_givesUp [.inr 399, .inl v1] n μ Q := by
  refine e_V (by decide) (Nat.le_of_ble_eq_true rfl) ?_
  show Wa G Y_X11_givesUp (ZV G Y_X11_givesUp Q) 0 0 n μ 0 [(0, .inr 399), (1, .inl v1)] []
  refine a_aload_n (k := 0) dX11_givesUp_0 rfl rfl ?_
  refine gs_X11_16 rfl dX11_givesUp_1 hg St_399 ?_
  refine a_iload_n (k := 1) dX11_givesUp_4 rfl rfl ?_
  refine k_X11_123 rfl dX11_givesUp_5 (Nat.le_of_ble_eq_true rfl) rfl (Nat.le_of_ble_eq_true rfl) (Nat.le_of_ble_eq_true rfl) h (fun x1 n2 μ3 h => ?_)
  refine a_bipush dX11_givesUp_8 (by decide) (by decide) ?_
  obtain ⟨q4, h⟩ := h
  refine a_iadd dX11_givesUp_10 q4 ?_
  refine a_iconst dX11_givesUp_11 (by decide) ?_
  obtain ⟨q5, h⟩ := h
  refine a_iastore dX11_givesUp_12 (St_ho hg St_402) q5.1 q5.2 (FX_put hg St_402 rfl) ?_
  exact a_ret dX11_givesUp_13 rfl (Nat.le_of_ble_eq_true rfl) (Nat.le_of_ble_eq_true rfl) h
