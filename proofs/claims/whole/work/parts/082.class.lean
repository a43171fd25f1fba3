-- 082.class: decode rows and blocks (by program, wip/gen)
theorem dX6_lookAt_0 : decode cX6_lookAt 0 = .ok (.aload_n 0, 1) := by decide +kernel
theorem dX6_lookAt_1 : decode cX6_lookAt 1 = .ok (.aload_n 1, 1) := by decide +kernel
theorem dX6_lookAt_2 : decode cX6_lookAt 2 = .ok (.invokevirtual 34, 3) := by decide +kernel
theorem dX6_lookAt_5 : decode cX6_lookAt 5 = .ok (.iconst 0, 1) := by decide +kernel
theorem dX6_lookAt_6 : decode cX6_lookAt 6 = .ok (.istore_n 3, 1) := by decide +kernel
theorem dX6_lookAt_7 : decode cX6_lookAt 7 = .ok (.iload_n 3, 1) := by decide +kernel
theorem dX6_lookAt_8 : decode cX6_lookAt 8 = .ok (.aload_n 1, 1) := by decide +kernel
theorem dX6_lookAt_9 : decode cX6_lookAt 9 = .ok (.getfield 38, 3) := by decide +kernel
theorem dX6_lookAt_12 : decode cX6_lookAt 12 = .ok (.if_icmp .ge 88, 3) := by decide +kernel
theorem dX6_lookAt_15 : decode cX6_lookAt 15 = .ok (.aload_n 1, 1) := by decide +kernel
theorem dX6_lookAt_16 : decode cX6_lookAt 16 = .ok (.iload_n 3, 1) := by decide +kernel
theorem dX6_lookAt_17 : decode cX6_lookAt 17 = .ok (.invokevirtual 43, 3) := by decide +kernel
theorem dX6_lookAt_20 : decode cX6_lookAt 20 = .ok (.astore 4, 2) := by decide +kernel
theorem dX6_lookAt_22 : decode cX6_lookAt 22 = .ok (.iconst 0, 1) := by decide +kernel
theorem dX6_lookAt_23 : decode cX6_lookAt 23 = .ok (.istore 5, 2) := by decide +kernel
theorem dX6_lookAt_25 : decode cX6_lookAt 25 = .ok (.iload 5, 2) := by decide +kernel
theorem dX6_lookAt_27 : decode cX6_lookAt 27 = .ok (.aload 4, 2) := by decide +kernel
theorem dX6_lookAt_29 : decode cX6_lookAt 29 = .ok (.getfield 47, 3) := by decide +kernel
theorem dX6_lookAt_32 : decode cX6_lookAt 32 = .ok (.getfield 52, 3) := by decide +kernel
theorem dX6_lookAt_35 : decode cX6_lookAt 35 = .ok (.if_icmp .ge 59, 3) := by decide +kernel
theorem dX6_lookAt_38 : decode cX6_lookAt 38 = .ok (.aload 4, 2) := by decide +kernel
theorem dX6_lookAt_40 : decode cX6_lookAt 40 = .ok (.getfield 47, 3) := by decide +kernel
theorem dX6_lookAt_43 : decode cX6_lookAt 43 = .ok (.iload 5, 2) := by decide +kernel
theorem dX6_lookAt_45 : decode cX6_lookAt 45 = .ok (.iconst 1, 1) := by decide +kernel
theorem dX6_lookAt_46 : decode cX6_lookAt 46 = .ok (.invokevirtual 55, 3) := by decide +kernel
theorem dX6_lookAt_49 : decode cX6_lookAt 49 = .ok (.aload_n 1, 1) := by decide +kernel
theorem dX6_lookAt_50 : decode cX6_lookAt 50 = .ok (.getfield 59, 3) := by decide +kernel
theorem dX6_lookAt_53 : decode cX6_lookAt 53 = .ok (.if_icmp .ge 7, 3) := by decide +kernel
theorem dX6_lookAt_56 : decode cX6_lookAt 56 = .ok (.iconst 1, 1) := by decide +kernel
theorem dX6_lookAt_57 : decode cX6_lookAt 57 = .ok (.goto 4, 3) := by decide +kernel
theorem dX6_lookAt_60 : decode cX6_lookAt 60 = .ok (.iconst 0, 1) := by decide +kernel
theorem dX6_lookAt_61 : decode cX6_lookAt 61 = .ok (.istore 6, 2) := by decide +kernel
theorem dX6_lookAt_63 : decode cX6_lookAt 63 = .ok (.iload 6, 2) := by decide +kernel
theorem dX6_lookAt_65 : decode cX6_lookAt 65 = .ok (.ifCond .ne 12, 3) := by decide +kernel
theorem dX6_lookAt_68 : decode cX6_lookAt 68 = .ok (.aload 4, 2) := by decide +kernel
theorem dX6_lookAt_70 : decode cX6_lookAt 70 = .ok (.getfield 62, 3) := by decide +kernel
theorem dX6_lookAt_73 : decode cX6_lookAt 73 = .ok (.iload_n 2, 1) := by decide +kernel
theorem dX6_lookAt_74 : decode cX6_lookAt 74 = .ok (.if_icmp .lt 14, 3) := by decide +kernel
theorem dX6_lookAt_77 : decode cX6_lookAt 77 = .ok (.aload_n 0, 1) := by decide +kernel
theorem dX6_lookAt_78 : decode cX6_lookAt 78 = .ok (.aload 4, 2) := by decide +kernel
theorem dX6_lookAt_80 : decode cX6_lookAt 80 = .ok (.getfield 47, 3) := by decide +kernel
theorem dX6_lookAt_83 : decode cX6_lookAt 83 = .ok (.iload 5, 2) := by decide +kernel
theorem dX6_lookAt_85 : decode cX6_lookAt 85 = .ok (.invokevirtual 65, 3) := by decide +kernel
theorem dX6_lookAt_88 : decode cX6_lookAt 88 = .ok (.iinc 5 1, 3) := by decide +kernel
theorem dX6_lookAt_91 : decode cX6_lookAt 91 = .ok (.goto (-66), 3) := by decide +kernel
theorem dX6_lookAt_94 : decode cX6_lookAt 94 = .ok (.iinc 3 1, 3) := by decide +kernel
theorem dX6_lookAt_97 : decode cX6_lookAt 97 = .ok (.goto (-90), 3) := by decide +kernel
theorem dX6_lookAt_100 : decode cX6_lookAt 100 = .ok (.aload_n 0, 1) := by decide +kernel
theorem dX6_lookAt_101 : decode cX6_lookAt 101 = .ok (.invokevirtual 69, 3) := by decide +kernel
theorem dX6_lookAt_104 : decode cX6_lookAt 104 = .ok (.return_, 1) := by decide +kernel
theorem dX6_openWindows_0 : decode cX6_openWindows 0 = .ok (.aload_n 0, 1) := by decide +kernel
theorem dX6_openWindows_1 : decode cX6_openWindows 1 = .ok (.getfield 20, 3) := by decide +kernel
theorem dX6_openWindows_4 : decode cX6_openWindows 4 = .ok (.iconst 0, 1) := by decide +kernel
theorem dX6_openWindows_5 : decode cX6_openWindows 5 = .ok (.invokevirtual 72, 3) := by decide +kernel
theorem dX6_openWindows_8 : decode cX6_openWindows 8 = .ok (.iconst 0, 1) := by decide +kernel
theorem dX6_openWindows_9 : decode cX6_openWindows 9 = .ok (.istore_n 2, 1) := by decide +kernel
theorem dX6_openWindows_10 : decode cX6_openWindows 10 = .ok (.iload_n 2, 1) := by decide +kernel
theorem dX6_openWindows_11 : decode cX6_openWindows 11 = .ok (.aload_n 0, 1) := by decide +kernel
theorem dX6_openWindows_12 : decode cX6_openWindows 12 = .ok (.getfield 9, 3) := by decide +kernel
theorem dX6_openWindows_15 : decode cX6_openWindows 15 = .ok (.getfield 76, 3) := by decide +kernel
theorem dX6_openWindows_18 : decode cX6_openWindows 18 = .ok (.if_icmp .ge 104, 3) := by decide +kernel
theorem dX6_openWindows_21 : decode cX6_openWindows 21 = .ok (.aload_n 0, 1) := by decide +kernel
theorem dX6_openWindows_22 : decode cX6_openWindows 22 = .ok (.getfield 9, 3) := by decide +kernel
theorem dX6_openWindows_25 : decode cX6_openWindows 25 = .ok (.iload_n 2, 1) := by decide +kernel
theorem dX6_openWindows_26 : decode cX6_openWindows 26 = .ok (.invokevirtual 81, 3) := by decide +kernel
theorem dX6_openWindows_29 : decode cX6_openWindows 29 = .ok (.astore_n 3, 1) := by decide +kernel
theorem dX6_openWindows_30 : decode cX6_openWindows 30 = .ok (.aload_n 3, 1) := by decide +kernel
theorem dX6_openWindows_31 : decode cX6_openWindows 31 = .ok (.getfield 85, 3) := by decide +kernel
theorem dX6_openWindows_34 : decode cX6_openWindows 34 = .ok (.aload_n 1, 1) := by decide +kernel
theorem dX6_openWindows_35 : decode cX6_openWindows 35 = .ok (.getfield 59, 3) := by decide +kernel
theorem dX6_openWindows_38 : decode cX6_openWindows 38 = .ok (.invokestatic 90, 3) := by decide +kernel
theorem dX6_openWindows_41 : decode cX6_openWindows 41 = .ok (.istore 4, 2) := by decide +kernel
theorem dX6_openWindows_43 : decode cX6_openWindows 43 = .ok (.aload_n 1, 1) := by decide +kernel
theorem dX6_openWindows_44 : decode cX6_openWindows 44 = .ok (.iload_n 2, 1) := by decide +kernel
theorem dX6_openWindows_45 : decode cX6_openWindows 45 = .ok (.invokevirtual 95, 3) := by decide +kernel
theorem dX6_openWindows_48 : decode cX6_openWindows 48 = .ok (.ifCond .eq 7, 3) := by decide +kernel
theorem dX6_openWindows_51 : decode cX6_openWindows 51 = .ok (.iconst 0, 1) := by decide +kernel
theorem dX6_openWindows_52 : decode cX6_openWindows 52 = .ok (.goto 7, 3) := by decide +kernel
theorem dX6_openWindows_55 : decode cX6_openWindows 55 = .ok (.aload_n 3, 1) := by decide +kernel
theorem dX6_openWindows_56 : decode cX6_openWindows 56 = .ok (.getfield 99, 3) := by decide +kernel
theorem dX6_openWindows_59 : decode cX6_openWindows 59 = .ok (.istore 5, 2) := by decide +kernel
theorem dX6_openWindows_61 : decode cX6_openWindows 61 = .ok (.aload_n 0, 1) := by decide +kernel
theorem dX6_openWindows_62 : decode cX6_openWindows 62 = .ok (.getfield 20, 3) := by decide +kernel
theorem dX6_openWindows_65 : decode cX6_openWindows 65 = .ok (.invokevirtual 102, 3) := by decide +kernel
theorem dX6_openWindows_68 : decode cX6_openWindows 68 = .ok (.istore 6, 2) := by decide +kernel
theorem dX6_openWindows_70 : decode cX6_openWindows 70 = .ok (.iconst 0, 1) := by decide +kernel
theorem dX6_openWindows_71 : decode cX6_openWindows 71 = .ok (.istore 7, 2) := by decide +kernel
theorem dX6_openWindows_73 : decode cX6_openWindows 73 = .ok (.iload 7, 2) := by decide +kernel
theorem dX6_openWindows_75 : decode cX6_openWindows 75 = .ok (.bipush 99, 2) := by decide +kernel
theorem dX6_openWindows_77 : decode cX6_openWindows 77 = .ok (.if_icmp .gt 39, 3) := by decide +kernel
theorem dX6_openWindows_80 : decode cX6_openWindows 80 = .ok (.aload_n 0, 1) := by decide +kernel
theorem dX6_openWindows_81 : decode cX6_openWindows 81 = .ok (.getfield 20, 3) := by decide +kernel
theorem dX6_openWindows_84 : decode cX6_openWindows 84 = .ok (.iload 6, 2) := by decide +kernel
theorem dX6_openWindows_86 : decode cX6_openWindows 86 = .ok (.iload 7, 2) := by decide +kernel
theorem dX6_openWindows_88 : decode cX6_openWindows 88 = .ok (.iload 7, 2) := by decide +kernel
theorem dX6_openWindows_90 : decode cX6_openWindows 90 = .ok (.iload 4, 2) := by decide +kernel
theorem dX6_openWindows_92 : decode cX6_openWindows 92 = .ok (.if_icmp .lt 14, 3) := by decide +kernel
theorem dX6_openWindows_95 : decode cX6_openWindows 95 = .ok (.iload 7, 2) := by decide +kernel
theorem dX6_openWindows_97 : decode cX6_openWindows 97 = .ok (.iload 5, 2) := by decide +kernel
theorem dX6_openWindows_99 : decode cX6_openWindows 99 = .ok (.if_icmp .ge 7, 3) := by decide +kernel
theorem dX6_openWindows_102 : decode cX6_openWindows 102 = .ok (.iconst 1, 1) := by decide +kernel
theorem dX6_openWindows_103 : decode cX6_openWindows 103 = .ok (.goto 4, 3) := by decide +kernel
theorem dX6_openWindows_106 : decode cX6_openWindows 106 = .ok (.iconst 0, 1) := by decide +kernel
theorem dX6_openWindows_107 : decode cX6_openWindows 107 = .ok (.invokevirtual 106, 3) := by decide +kernel
theorem dX6_openWindows_110 : decode cX6_openWindows 110 = .ok (.iinc 7 1, 3) := by decide +kernel
theorem dX6_openWindows_113 : decode cX6_openWindows 113 = .ok (.goto (-40), 3) := by decide +kernel
theorem dX6_openWindows_116 : decode cX6_openWindows 116 = .ok (.iinc 2 1, 3) := by decide +kernel
theorem dX6_openWindows_119 : decode cX6_openWindows 119 = .ok (.goto (-109), 3) := by decide +kernel
theorem dX6_openWindows_122 : decode cX6_openWindows 122 = .ok (.return_, 1) := by decide +kernel
theorem dX6_closeTicks_0 : decode cX6_closeTicks 0 = .ok (.aload_n 1, 1) := by decide +kernel
theorem dX6_closeTicks_1 : decode cX6_closeTicks 1 = .ok (.iload_n 2, 1) := by decide +kernel
theorem dX6_closeTicks_2 : decode cX6_closeTicks 2 = .ok (.iconst 0, 1) := by decide +kernel
theorem dX6_closeTicks_3 : decode cX6_closeTicks 3 = .ok (.invokevirtual 55, 3) := by decide +kernel
theorem dX6_closeTicks_6 : decode cX6_closeTicks 6 = .ok (.istore_n 3, 1) := by decide +kernel
theorem dX6_closeTicks_7 : decode cX6_closeTicks 7 = .ok (.aload_n 1, 1) := by decide +kernel
theorem dX6_closeTicks_8 : decode cX6_closeTicks 8 = .ok (.iload_n 2, 1) := by decide +kernel
theorem dX6_closeTicks_9 : decode cX6_closeTicks 9 = .ok (.iconst 2, 1) := by decide +kernel
theorem dX6_closeTicks_10 : decode cX6_closeTicks 10 = .ok (.invokevirtual 55, 3) := by decide +kernel
theorem dX6_closeTicks_13 : decode cX6_closeTicks 13 = .ok (.istore 4, 2) := by decide +kernel
theorem dX6_closeTicks_15 : decode cX6_closeTicks 15 = .ok (.aload_n 1, 1) := by decide +kernel
theorem dX6_closeTicks_16 : decode cX6_closeTicks 16 = .ok (.iload_n 2, 1) := by decide +kernel
theorem dX6_closeTicks_17 : decode cX6_closeTicks 17 = .ok (.iconst 1, 1) := by decide +kernel
theorem dX6_closeTicks_18 : decode cX6_closeTicks 18 = .ok (.invokevirtual 55, 3) := by decide +kernel
theorem dX6_closeTicks_21 : decode cX6_closeTicks 21 = .ok (.istore 5, 2) := by decide +kernel
theorem dX6_closeTicks_23 : decode cX6_closeTicks 23 = .ok (.iload 5, 2) := by decide +kernel
theorem dX6_closeTicks_25 : decode cX6_closeTicks 25 = .ok (.iload 4, 2) := by decide +kernel
theorem dX6_closeTicks_27 : decode cX6_closeTicks 27 = .ok (.if_icmp .ge 20, 3) := by decide +kernel
theorem dX6_closeTicks_30 : decode cX6_closeTicks 30 = .ok (.aload_n 0, 1) := by decide +kernel
theorem dX6_closeTicks_31 : decode cX6_closeTicks 31 = .ok (.getfield 20, 3) := by decide +kernel
theorem dX6_closeTicks_34 : decode cX6_closeTicks 34 = .ok (.iload_n 3, 1) := by decide +kernel
theorem dX6_closeTicks_35 : decode cX6_closeTicks 35 = .ok (.iload 5, 2) := by decide +kernel
theorem dX6_closeTicks_37 : decode cX6_closeTicks 37 = .ok (.iconst 0, 1) := by decide +kernel
theorem dX6_closeTicks_38 : decode cX6_closeTicks 38 = .ok (.invokevirtual 106, 3) := by decide +kernel
theorem dX6_closeTicks_41 : decode cX6_closeTicks 41 = .ok (.iinc 5 1, 3) := by decide +kernel
theorem dX6_closeTicks_44 : decode cX6_closeTicks 44 = .ok (.goto (-21), 3) := by decide +kernel
theorem dX6_closeTicks_47 : decode cX6_closeTicks 47 = .ok (.return_, 1) := by decide +kernel
theorem dX6_countRuns_0 : decode cX6_countRuns 0 = .ok (.iconst 0, 1) := by decide +kernel
theorem dX6_countRuns_1 : decode cX6_countRuns 1 = .ok (.istore_n 1, 1) := by decide +kernel
theorem dX6_countRuns_2 : decode cX6_countRuns 2 = .ok (.iload_n 1, 1) := by decide +kernel
theorem dX6_countRuns_3 : decode cX6_countRuns 3 = .ok (.aload_n 0, 1) := by decide +kernel
theorem dX6_countRuns_4 : decode cX6_countRuns 4 = .ok (.getfield 20, 3) := by decide +kernel
theorem dX6_countRuns_7 : decode cX6_countRuns 7 = .ok (.getfield 52, 3) := by decide +kernel
theorem dX6_countRuns_10 : decode cX6_countRuns 10 = .ok (.if_icmp .ge 54, 3) := by decide +kernel
theorem dX6_countRuns_13 : decode cX6_countRuns 13 = .ok (.iconst 0, 1) := by decide +kernel
theorem dX6_countRuns_14 : decode cX6_countRuns 14 = .ok (.istore_n 2, 1) := by decide +kernel
theorem dX6_countRuns_15 : decode cX6_countRuns 15 = .ok (.bipush 99, 2) := by decide +kernel
theorem dX6_countRuns_17 : decode cX6_countRuns 17 = .ok (.istore_n 3, 1) := by decide +kernel
theorem dX6_countRuns_18 : decode cX6_countRuns 18 = .ok (.iload_n 3, 1) := by decide +kernel
theorem dX6_countRuns_19 : decode cX6_countRuns 19 = .ok (.ifCond .lt 39, 3) := by decide +kernel
theorem dX6_countRuns_22 : decode cX6_countRuns 22 = .ok (.aload_n 0, 1) := by decide +kernel
theorem dX6_countRuns_23 : decode cX6_countRuns 23 = .ok (.getfield 20, 3) := by decide +kernel
theorem dX6_countRuns_26 : decode cX6_countRuns 26 = .ok (.iload_n 1, 1) := by decide +kernel
theorem dX6_countRuns_27 : decode cX6_countRuns 27 = .ok (.iload_n 3, 1) := by decide +kernel
theorem dX6_countRuns_28 : decode cX6_countRuns 28 = .ok (.invokevirtual 55, 3) := by decide +kernel
theorem dX6_countRuns_31 : decode cX6_countRuns 31 = .ok (.ifCond .ne 7, 3) := by decide +kernel
theorem dX6_countRuns_34 : decode cX6_countRuns 34 = .ok (.iconst 0, 1) := by decide +kernel
theorem dX6_countRuns_35 : decode cX6_countRuns 35 = .ok (.goto 6, 3) := by decide +kernel
theorem dX6_countRuns_38 : decode cX6_countRuns 38 = .ok (.iload_n 2, 1) := by decide +kernel
theorem dX6_countRuns_39 : decode cX6_countRuns 39 = .ok (.iconst 1, 1) := by decide +kernel
theorem dX6_countRuns_40 : decode cX6_countRuns 40 = .ok (.iadd, 1) := by decide +kernel
theorem dX6_countRuns_41 : decode cX6_countRuns 41 = .ok (.istore_n 2, 1) := by decide +kernel
theorem dX6_countRuns_42 : decode cX6_countRuns 42 = .ok (.aload_n 0, 1) := by decide +kernel
theorem dX6_countRuns_43 : decode cX6_countRuns 43 = .ok (.getfield 20, 3) := by decide +kernel
theorem dX6_countRuns_46 : decode cX6_countRuns 46 = .ok (.iload_n 1, 1) := by decide +kernel
theorem dX6_countRuns_47 : decode cX6_countRuns 47 = .ok (.iload_n 3, 1) := by decide +kernel
theorem dX6_countRuns_48 : decode cX6_countRuns 48 = .ok (.iload_n 2, 1) := by decide +kernel
theorem dX6_countRuns_49 : decode cX6_countRuns 49 = .ok (.invokevirtual 106, 3) := by decide +kernel
theorem dX6_countRuns_52 : decode cX6_countRuns 52 = .ok (.iinc 3 (-1), 3) := by decide +kernel
theorem dX6_countRuns_55 : decode cX6_countRuns 55 = .ok (.goto (-37), 3) := by decide +kernel
theorem dX6_countRuns_58 : decode cX6_countRuns 58 = .ok (.iinc 1 1, 3) := by decide +kernel
theorem dX6_countRuns_61 : decode cX6_countRuns 61 = .ok (.goto (-59), 3) := by decide +kernel
theorem dX6_countRuns_64 : decode cX6_countRuns 64 = .ok (.return_, 1) := by decide +kernel
theorem dX6_seek_0 : decode cX6_seek 0 = .ok (.aload_n 0, 1) := by decide +kernel
theorem dX6_seek_1 : decode cX6_seek 1 = .ok (.iload_n 3, 1) := by decide +kernel
theorem dX6_seek_2 : decode cX6_seek 2 = .ok (.putfield 110, 3) := by decide +kernel
theorem dX6_seek_5 : decode cX6_seek 5 = .ok (.aload_n 0, 1) := by decide +kernel
theorem dX6_seek_6 : decode cX6_seek 6 = .ok (.iload 4, 2) := by decide +kernel
theorem dX6_seek_8 : decode cX6_seek 8 = .ok (.putfield 113, 3) := by decide +kernel
theorem dX6_seek_11 : decode cX6_seek 11 = .ok (.aload_n 0, 1) := by decide +kernel
theorem dX6_seek_12 : decode cX6_seek 12 = .ok (.iload 5, 2) := by decide +kernel
theorem dX6_seek_14 : decode cX6_seek 14 = .ok (.putfield 116, 3) := by decide +kernel
theorem dX6_seek_17 : decode cX6_seek 17 = .ok (.aload_n 0, 1) := by decide +kernel
theorem dX6_seek_18 : decode cX6_seek 18 = .ok (.getfield 27, 3) := by decide +kernel
theorem dX6_seek_21 : decode cX6_seek 21 = .ok (.iconst 0, 1) := by decide +kernel
theorem dX6_seek_22 : decode cX6_seek 22 = .ok (.invokevirtual 72, 3) := by decide +kernel
theorem dX6_seek_25 : decode cX6_seek 25 = .ok (.aload_n 0, 1) := by decide +kernel
theorem dX6_seek_26 : decode cX6_seek 26 = .ok (.sipush 1000, 3) := by decide +kernel
theorem dX6_seek_29 : decode cX6_seek 29 = .ok (.putfield 30, 3) := by decide +kernel
theorem dX6_seek_32 : decode cX6_seek 32 = .ok (.aload_n 0, 1) := by decide +kernel
theorem dX6_seek_33 : decode cX6_seek 33 = .ok (.iload_n 1, 1) := by decide +kernel
theorem dX6_seek_34 : decode cX6_seek 34 = .ok (.iload_n 2, 1) := by decide +kernel
theorem dX6_seek_35 : decode cX6_seek 35 = .ok (.iconst 0, 1) := by decide +kernel
theorem dX6_seek_36 : decode cX6_seek 36 = .ok (.iconst 1, 1) := by decide +kernel
theorem dX6_seek_37 : decode cX6_seek 37 = .ok (.iload_n 1, 1) := by decide +kernel
theorem dX6_seek_38 : decode cX6_seek 38 = .ok (.ishl, 1) := by decide +kernel
theorem dX6_seek_39 : decode cX6_seek 39 = .ok (.invokestatic 119, 3) := by decide +kernel
theorem dX6_seek_42 : decode cX6_seek 42 = .ok (.aload_n 0, 1) := by decide +kernel
theorem dX6_seek_43 : decode cX6_seek 43 = .ok (.getfield 27, 3) := by decide +kernel
theorem dX6_seek_46 : decode cX6_seek 46 = .ok (.getfield 52, 3) := by decide +kernel
theorem dX6_seek_49 : decode cX6_seek 49 = .ok (.ifCond .ne 8, 3) := by decide +kernel
theorem dX6_seek_52 : decode cX6_seek 52 = .ok (.bipush (-9), 2) := by decide +kernel
theorem dX6_seek_54 : decode cX6_seek 54 = .ok (.goto 7, 3) := by decide +kernel
theorem dX6_seek_57 : decode cX6_seek 57 = .ok (.aload_n 0, 1) := by decide +kernel
theorem dX6_seek_58 : decode cX6_seek 58 = .ok (.getfield 30, 3) := by decide +kernel
theorem dX6_seek_61 : decode cX6_seek 61 = .ok (.ireturn, 1) := by decide +kernel
theorem dX6_explore_0 : decode cX6_explore 0 = .ok (.iload_n 3, 1) := by decide +kernel
theorem dX6_explore_1 : decode cX6_explore 1 = .ok (.iconst 5, 1) := by decide +kernel
theorem dX6_explore_2 : decode cX6_explore 2 = .ok (.if_icmp .lt 4, 3) := by decide +kernel
theorem dX6_explore_5 : decode cX6_explore 5 = .ok (.return_, 1) := by decide +kernel
theorem dX6_explore_6 : decode cX6_explore 6 = .ok (.iconst 0, 1) := by decide +kernel
theorem dX6_explore_7 : decode cX6_explore 7 = .ok (.istore 5, 2) := by decide +kernel
theorem dX6_explore_9 : decode cX6_explore 9 = .ok (.iload 5, 2) := by decide +kernel
theorem dX6_explore_11 : decode cX6_explore 11 = .ok (.aload_n 0, 1) := by decide +kernel
theorem dX6_explore_12 : decode cX6_explore 12 = .ok (.getfield 9, 3) := by decide +kernel
theorem dX6_explore_15 : decode cX6_explore 15 = .ok (.getfield 76, 3) := by decide +kernel
theorem dX6_explore_18 : decode cX6_explore 18 = .ok (.if_icmp .ge 211, 3) := by decide +kernel
theorem dX6_explore_21 : decode cX6_explore 21 = .ok (.aload_n 0, 1) := by decide +kernel
theorem dX6_explore_22 : decode cX6_explore 22 = .ok (.getfield 9, 3) := by decide +kernel
theorem dX6_explore_25 : decode cX6_explore 25 = .ok (.iload 5, 2) := by decide +kernel
theorem dX6_explore_27 : decode cX6_explore 27 = .ok (.invokevirtual 81, 3) := by decide +kernel
theorem dX6_explore_30 : decode cX6_explore 30 = .ok (.astore 6, 2) := by decide +kernel
theorem dX6_explore_32 : decode cX6_explore 32 = .ok (.iload 5, 2) := by decide +kernel
theorem dX6_explore_34 : decode cX6_explore 34 = .ok (.aload_n 0, 1) := by decide +kernel
theorem dX6_explore_35 : decode cX6_explore 35 = .ok (.getfield 116, 3) := by decide +kernel
theorem dX6_explore_38 : decode cX6_explore 38 = .ok (.if_icmp .eq 185, 3) := by decide +kernel
theorem dX6_explore_41 : decode cX6_explore 41 = .ok (.aload 6, 2) := by decide +kernel
theorem dX6_explore_43 : decode cX6_explore 43 = .ok (.getfield 123, 3) := by decide +kernel
theorem dX6_explore_46 : decode cX6_explore 46 = .ok (.iload_n 1, 1) := by decide +kernel
theorem dX6_explore_47 : decode cX6_explore 47 = .ok (.if_icmp .ne 176, 3) := by decide +kernel
theorem dX6_explore_50 : decode cX6_explore 50 = .ok (.iload 4, 2) := by decide +kernel
theorem dX6_explore_52 : decode cX6_explore 52 = .ok (.aload 6, 2) := by decide +kernel
theorem dX6_explore_54 : decode cX6_explore 54 = .ok (.getfield 126, 3) := by decide +kernel
theorem dX6_explore_57 : decode cX6_explore 57 = .ok (.ishr, 1) := by decide +kernel
theorem dX6_explore_58 : decode cX6_explore 58 = .ok (.iconst 1, 1) := by decide +kernel
theorem dX6_explore_59 : decode cX6_explore 59 = .ok (.iand, 1) := by decide +kernel
theorem dX6_explore_60 : decode cX6_explore 60 = .ok (.iconst 1, 1) := by decide +kernel
theorem dX6_explore_61 : decode cX6_explore 61 = .ok (.if_icmp .ne 6, 3) := by decide +kernel
theorem dX6_explore_64 : decode cX6_explore 64 = .ok (.goto 159, 3) := by decide +kernel
theorem dX6_explore_67 : decode cX6_explore 67 = .ok (.aload 6, 2) := by decide +kernel
theorem dX6_explore_69 : decode cX6_explore 69 = .ok (.aload_n 0, 1) := by decide +kernel
theorem dX6_explore_70 : decode cX6_explore 70 = .ok (.getfield 113, 3) := by decide +kernel
theorem dX6_explore_73 : decode cX6_explore 73 = .ok (.invokevirtual 129, 3) := by decide +kernel
theorem dX6_explore_76 : decode cX6_explore 76 = .ok (.istore 7, 2) := by decide +kernel
theorem dX6_explore_78 : decode cX6_explore 78 = .ok (.aload_n 0, 1) := by decide +kernel
theorem dX6_explore_79 : decode cX6_explore 79 = .ok (.iload 5, 2) := by decide +kernel
theorem dX6_explore_81 : decode cX6_explore 81 = .ok (.iload_n 2, 1) := by decide +kernel
theorem dX6_explore_82 : decode cX6_explore 82 = .ok (.iload 7, 2) := by decide +kernel
theorem dX6_explore_84 : decode cX6_explore 84 = .ok (.invokevirtual 133, 3) := by decide +kernel
theorem dX6_explore_87 : decode cX6_explore 87 = .ok (.istore 8, 2) := by decide +kernel
theorem dX6_explore_89 : decode cX6_explore 89 = .ok (.iload 8, 2) := by decide +kernel
theorem dX6_explore_91 : decode cX6_explore 91 = .ok (.iload 7, 2) := by decide +kernel
theorem dX6_explore_93 : decode cX6_explore 93 = .ok (.iadd, 1) := by decide +kernel
theorem dX6_explore_94 : decode cX6_explore 94 = .ok (.aload 6, 2) := by decide +kernel
theorem dX6_explore_96 : decode cX6_explore 96 = .ok (.getfield 137, 3) := by decide +kernel
theorem dX6_explore_99 : decode cX6_explore 99 = .ok (.iadd, 1) := by decide +kernel
theorem dX6_explore_100 : decode cX6_explore 100 = .ok (.istore 9, 2) := by decide +kernel
theorem dX6_explore_102 : decode cX6_explore 102 = .ok (.iload 8, 2) := by decide +kernel
theorem dX6_explore_104 : decode cX6_explore 104 = .ok (.bipush (-9), 2) := by decide +kernel
theorem dX6_explore_106 : decode cX6_explore 106 = .ok (.if_icmp .eq 117, 3) := by decide +kernel
theorem dX6_explore_109 : decode cX6_explore 109 = .ok (.iload 9, 2) := by decide +kernel
theorem dX6_explore_111 : decode cX6_explore 111 = .ok (.aload_n 0, 1) := by decide +kernel
theorem dX6_explore_112 : decode cX6_explore 112 = .ok (.getfield 30, 3) := by decide +kernel
theorem dX6_explore_115 : decode cX6_explore 115 = .ok (.if_icmp .le 6, 3) := by decide +kernel
theorem dX6_explore_118 : decode cX6_explore 118 = .ok (.goto 105, 3) := by decide +kernel
theorem dX6_explore_121 : decode cX6_explore 121 = .ok (.aload_n 0, 1) := by decide +kernel
theorem dX6_explore_122 : decode cX6_explore 122 = .ok (.iload_n 3, 1) := by decide +kernel
theorem dX6_explore_123 : decode cX6_explore 123 = .ok (.iload 5, 2) := by decide +kernel
theorem dX6_explore_125 : decode cX6_explore 125 = .ok (.iload 8, 2) := by decide +kernel
theorem dX6_explore_127 : decode cX6_explore 127 = .ok (.iload 8, 2) := by decide +kernel
theorem dX6_explore_129 : decode cX6_explore 129 = .ok (.iload 7, 2) := by decide +kernel
theorem dX6_explore_131 : decode cX6_explore 131 = .ok (.iadd, 1) := by decide +kernel
theorem dX6_explore_132 : decode cX6_explore 132 = .ok (.iload 9, 2) := by decide +kernel
theorem dX6_explore_134 : decode cX6_explore 134 = .ok (.invokevirtual 140, 3) := by decide +kernel
theorem dX6_explore_137 : decode cX6_explore 137 = .ok (.aload 6, 2) := by decide +kernel
theorem dX6_explore_139 : decode cX6_explore 139 = .ok (.getfield 126, 3) := by decide +kernel
theorem dX6_explore_142 : decode cX6_explore 142 = .ok (.aload_n 0, 1) := by decide +kernel
theorem dX6_explore_143 : decode cX6_explore 143 = .ok (.getfield 110, 3) := by decide +kernel
theorem dX6_explore_146 : decode cX6_explore 146 = .ok (.if_icmp .eq 30, 3) := by decide +kernel
theorem dX6_explore_149 : decode cX6_explore 149 = .ok (.aload_n 0, 1) := by decide +kernel
theorem dX6_explore_150 : decode cX6_explore 150 = .ok (.aload 6, 2) := by decide +kernel
theorem dX6_explore_152 : decode cX6_explore 152 = .ok (.getfield 126, 3) := by decide +kernel
theorem dX6_explore_155 : decode cX6_explore 155 = .ok (.iload 9, 2) := by decide +kernel
theorem dX6_explore_157 : decode cX6_explore 157 = .ok (.iload_n 3, 1) := by decide +kernel
theorem dX6_explore_158 : decode cX6_explore 158 = .ok (.iconst 1, 1) := by decide +kernel
theorem dX6_explore_159 : decode cX6_explore 159 = .ok (.iadd, 1) := by decide +kernel
theorem dX6_explore_160 : decode cX6_explore 160 = .ok (.iload 4, 2) := by decide +kernel
theorem dX6_explore_162 : decode cX6_explore 162 = .ok (.iconst 1, 1) := by decide +kernel
theorem dX6_explore_163 : decode cX6_explore 163 = .ok (.aload 6, 2) := by decide +kernel
theorem dX6_explore_165 : decode cX6_explore 165 = .ok (.getfield 126, 3) := by decide +kernel
theorem dX6_explore_168 : decode cX6_explore 168 = .ok (.ishl, 1) := by decide +kernel
theorem dX6_explore_169 : decode cX6_explore 169 = .ok (.ior, 1) := by decide +kernel
theorem dX6_explore_170 : decode cX6_explore 170 = .ok (.invokestatic 119, 3) := by decide +kernel
theorem dX6_explore_173 : decode cX6_explore 173 = .ok (.goto 50, 3) := by decide +kernel
theorem dX6_explore_176 : decode cX6_explore 176 = .ok (.iload 9, 2) := by decide +kernel
theorem dX6_explore_178 : decode cX6_explore 178 = .ok (.aload_n 0, 1) := by decide +kernel
theorem dX6_explore_179 : decode cX6_explore 179 = .ok (.getfield 30, 3) := by decide +kernel
theorem dX6_explore_182 : decode cX6_explore 182 = .ok (.if_icmp .lt 16, 3) := by decide +kernel
theorem dX6_explore_185 : decode cX6_explore 185 = .ok (.iload_n 3, 1) := by decide +kernel
theorem dX6_explore_186 : decode cX6_explore 186 = .ok (.iconst 1, 1) := by decide +kernel
theorem dX6_explore_187 : decode cX6_explore 187 = .ok (.iadd, 1) := by decide +kernel
theorem dX6_explore_188 : decode cX6_explore 188 = .ok (.aload_n 0, 1) := by decide +kernel
theorem dX6_explore_189 : decode cX6_explore 189 = .ok (.getfield 27, 3) := by decide +kernel
theorem dX6_explore_192 : decode cX6_explore 192 = .ok (.getfield 52, 3) := by decide +kernel
theorem dX6_explore_195 : decode cX6_explore 195 = .ok (.if_icmp .ge 28, 3) := by decide +kernel
theorem dX6_explore_198 : decode cX6_explore 198 = .ok (.aload_n 0, 1) := by decide +kernel
theorem dX6_explore_199 : decode cX6_explore 199 = .ok (.iload 9, 2) := by decide +kernel
theorem dX6_explore_201 : decode cX6_explore 201 = .ok (.putfield 30, 3) := by decide +kernel
theorem dX6_explore_204 : decode cX6_explore 204 = .ok (.aload_n 0, 1) := by decide +kernel
theorem dX6_explore_205 : decode cX6_explore 205 = .ok (.getfield 27, 3) := by decide +kernel
theorem dX6_explore_208 : decode cX6_explore 208 = .ok (.iconst 0, 1) := by decide +kernel
theorem dX6_explore_209 : decode cX6_explore 209 = .ok (.invokevirtual 72, 3) := by decide +kernel
theorem dX6_explore_212 : decode cX6_explore 212 = .ok (.aload_n 0, 1) := by decide +kernel
theorem dX6_explore_213 : decode cX6_explore 213 = .ok (.getfield 27, 3) := by decide +kernel
theorem dX6_explore_216 : decode cX6_explore 216 = .ok (.aload_n 0, 1) := by decide +kernel
theorem dX6_explore_217 : decode cX6_explore 217 = .ok (.getfield 24, 3) := by decide +kernel
theorem dX6_explore_220 : decode cX6_explore 220 = .ok (.invokevirtual 144, 3) := by decide +kernel
theorem dX6_explore_223 : decode cX6_explore 223 = .ok (.iinc 5 1, 3) := by decide +kernel
theorem dX6_explore_226 : decode cX6_explore 226 = .ok (.goto (-217), 3) := by decide +kernel
theorem dX6_explore_229 : decode cX6_explore 229 = .ok (.return_, 1) := by decide +kernel
theorem dX6_firstBegin_0 : decode cX6_firstBegin 0 = .ok (.iload_n 2, 1) := by decide +kernel
theorem dX6_firstBegin_1 : decode cX6_firstBegin 1 = .ok (.istore 4, 2) := by decide +kernel
theorem dX6_firstBegin_3 : decode cX6_firstBegin 3 = .ok (.iload 4, 2) := by decide +kernel
theorem dX6_firstBegin_5 : decode cX6_firstBegin 5 = .ok (.bipush 99, 2) := by decide +kernel
theorem dX6_firstBegin_7 : decode cX6_firstBegin 7 = .ok (.if_icmp .gt 26, 3) := by decide +kernel
theorem dX6_firstBegin_10 : decode cX6_firstBegin 10 = .ok (.aload_n 0, 1) := by decide +kernel
theorem dX6_firstBegin_11 : decode cX6_firstBegin 11 = .ok (.getfield 20, 3) := by decide +kernel
theorem dX6_firstBegin_14 : decode cX6_firstBegin 14 = .ok (.iload_n 1, 1) := by decide +kernel
theorem dX6_firstBegin_15 : decode cX6_firstBegin 15 = .ok (.iload 4, 2) := by decide +kernel
theorem dX6_firstBegin_17 : decode cX6_firstBegin 17 = .ok (.invokevirtual 55, 3) := by decide +kernel
theorem dX6_firstBegin_20 : decode cX6_firstBegin 20 = .ok (.iload_n 3, 1) := by decide +kernel
theorem dX6_firstBegin_21 : decode cX6_firstBegin 21 = .ok (.if_icmp .lt 6, 3) := by decide +kernel
theorem dX6_firstBegin_24 : decode cX6_firstBegin 24 = .ok (.iload 4, 2) := by decide +kernel
theorem dX6_firstBegin_26 : decode cX6_firstBegin 26 = .ok (.ireturn, 1) := by decide +kernel
theorem dX6_firstBegin_27 : decode cX6_firstBegin 27 = .ok (.iinc 4 1, 3) := by decide +kernel
theorem dX6_firstBegin_30 : decode cX6_firstBegin 30 = .ok (.goto (-27), 3) := by decide +kernel
theorem dX6_firstBegin_33 : decode cX6_firstBegin 33 = .ok (.bipush (-9), 2) := by decide +kernel
theorem dX6_firstBegin_35 : decode cX6_firstBegin 35 = .ok (.ireturn, 1) := by decide +kernel
theorem dX6_setTrail_0 : decode cX6_setTrail 0 = .ok (.aload_n 0, 1) := by decide +kernel
theorem dX6_setTrail_1 : decode cX6_setTrail 1 = .ok (.getfield 24, 3) := by decide +kernel
theorem dX6_setTrail_4 : decode cX6_setTrail 4 = .ok (.iload_n 1, 1) := by decide +kernel
theorem dX6_setTrail_5 : decode cX6_setTrail 5 = .ok (.invokevirtual 72, 3) := by decide +kernel
theorem dX6_setTrail_8 : decode cX6_setTrail 8 = .ok (.aload_n 0, 1) := by decide +kernel
theorem dX6_setTrail_9 : decode cX6_setTrail 9 = .ok (.getfield 24, 3) := by decide +kernel
theorem dX6_setTrail_12 : decode cX6_setTrail 12 = .ok (.invokevirtual 102, 3) := by decide +kernel
theorem dX6_setTrail_15 : decode cX6_setTrail 15 = .ok (.istore 6, 2) := by decide +kernel
theorem dX6_setTrail_17 : decode cX6_setTrail 17 = .ok (.aload_n 0, 1) := by decide +kernel
theorem dX6_setTrail_18 : decode cX6_setTrail 18 = .ok (.getfield 24, 3) := by decide +kernel
theorem dX6_setTrail_21 : decode cX6_setTrail 21 = .ok (.iload 6, 2) := by decide +kernel
theorem dX6_setTrail_23 : decode cX6_setTrail 23 = .ok (.iconst 0, 1) := by decide +kernel
theorem dX6_setTrail_24 : decode cX6_setTrail 24 = .ok (.iload_n 2, 1) := by decide +kernel
theorem dX6_setTrail_25 : decode cX6_setTrail 25 = .ok (.invokevirtual 106, 3) := by decide +kernel
theorem dX6_setTrail_28 : decode cX6_setTrail 28 = .ok (.aload_n 0, 1) := by decide +kernel
theorem dX6_setTrail_29 : decode cX6_setTrail 29 = .ok (.getfield 24, 3) := by decide +kernel
theorem dX6_setTrail_32 : decode cX6_setTrail 32 = .ok (.iload 6, 2) := by decide +kernel
theorem dX6_setTrail_34 : decode cX6_setTrail 34 = .ok (.iconst 1, 1) := by decide +kernel
theorem dX6_setTrail_35 : decode cX6_setTrail 35 = .ok (.iload_n 3, 1) := by decide +kernel
theorem dX6_setTrail_36 : decode cX6_setTrail 36 = .ok (.invokevirtual 106, 3) := by decide +kernel
theorem dX6_setTrail_39 : decode cX6_setTrail 39 = .ok (.aload_n 0, 1) := by decide +kernel
theorem dX6_setTrail_40 : decode cX6_setTrail 40 = .ok (.getfield 24, 3) := by decide +kernel
theorem dX6_setTrail_43 : decode cX6_setTrail 43 = .ok (.iload 6, 2) := by decide +kernel
theorem dX6_setTrail_45 : decode cX6_setTrail 45 = .ok (.iconst 2, 1) := by decide +kernel
theorem dX6_setTrail_46 : decode cX6_setTrail 46 = .ok (.iload 4, 2) := by decide +kernel
theorem dX6_setTrail_48 : decode cX6_setTrail 48 = .ok (.invokevirtual 106, 3) := by decide +kernel
theorem dX6_setTrail_51 : decode cX6_setTrail 51 = .ok (.aload_n 0, 1) := by decide +kernel
theorem dX6_setTrail_52 : decode cX6_setTrail 52 = .ok (.getfield 24, 3) := by decide +kernel
theorem dX6_setTrail_55 : decode cX6_setTrail 55 = .ok (.iload 6, 2) := by decide +kernel
theorem dX6_setTrail_57 : decode cX6_setTrail 57 = .ok (.iconst 3, 1) := by decide +kernel
theorem dX6_setTrail_58 : decode cX6_setTrail 58 = .ok (.iload 5, 2) := by decide +kernel
theorem dX6_setTrail_60 : decode cX6_setTrail 60 = .ok (.invokevirtual 106, 3) := by decide +kernel
theorem dX6_setTrail_63 : decode cX6_setTrail 63 = .ok (.return_, 1) := by decide +kernel
theorem dX5_planAll_0 : decode cX5_planAll 0 = .ok (.iload_n 2, 1) := by decide +kernel
theorem dX5_planAll_1 : decode cX5_planAll 1 = .ok (.istore_n 3, 1) := by decide +kernel
theorem dX5_planAll_2 : decode cX5_planAll 2 = .ok (.iconst 0, 1) := by decide +kernel
theorem dX5_planAll_3 : decode cX5_planAll 3 = .ok (.istore 4, 2) := by decide +kernel
theorem dX5_planAll_5 : decode cX5_planAll 5 = .ok (.iload 4, 2) := by decide +kernel
theorem dX5_planAll_7 : decode cX5_planAll 7 = .ok (.bipush 8, 2) := by decide +kernel
theorem dX5_planAll_9 : decode cX5_planAll 9 = .ok (.if_icmp .ge 50, 3) := by decide +kernel
theorem dX5_planAll_12 : decode cX5_planAll 12 = .ok (.iload_n 3, 1) := by decide +kernel
theorem dX5_planAll_13 : decode cX5_planAll 13 = .ok (.ifCond .eq 46, 3) := by decide +kernel
theorem dX5_planAll_16 : decode cX5_planAll 16 = .ok (.aload_n 0, 1) := by decide +kernel
theorem dX5_planAll_17 : decode cX5_planAll 17 = .ok (.aload_n 1, 1) := by decide +kernel
theorem dX5_planAll_18 : decode cX5_planAll 18 = .ok (.iload_n 3, 1) := by decide +kernel
theorem dX5_planAll_19 : decode cX5_planAll 19 = .ok (.invokevirtual 15, 3) := by decide +kernel
theorem dX5_planAll_22 : decode cX5_planAll 22 = .ok (.istore 5, 2) := by decide +kernel
theorem dX5_planAll_24 : decode cX5_planAll 24 = .ok (.iload_n 3, 1) := by decide +kernel
theorem dX5_planAll_25 : decode cX5_planAll 25 = .ok (.iconst 1, 1) := by decide +kernel
theorem dX5_planAll_26 : decode cX5_planAll 26 = .ok (.iload 5, 2) := by decide +kernel
theorem dX5_planAll_28 : decode cX5_planAll 28 = .ok (.ishl, 1) := by decide +kernel
theorem dX5_planAll_29 : decode cX5_planAll 29 = .ok (.iconst (-1), 1) := by decide +kernel
theorem dX5_planAll_30 : decode cX5_planAll 30 = .ok (.ixor, 1) := by decide +kernel
theorem dX5_planAll_31 : decode cX5_planAll 31 = .ok (.iand, 1) := by decide +kernel
theorem dX5_planAll_32 : decode cX5_planAll 32 = .ok (.istore_n 3, 1) := by decide +kernel
theorem dX5_planAll_33 : decode cX5_planAll 33 = .ok (.aload_n 0, 1) := by decide +kernel
theorem dX5_planAll_34 : decode cX5_planAll 34 = .ok (.aload_n 1, 1) := by decide +kernel
theorem dX5_planAll_35 : decode cX5_planAll 35 = .ok (.iload 5, 2) := by decide +kernel
theorem dX5_planAll_37 : decode cX5_planAll 37 = .ok (.invokevirtual 19, 3) := by decide +kernel
theorem dX5_planAll_40 : decode cX5_planAll 40 = .ok (.ifCond .eq 13, 3) := by decide +kernel
theorem dX5_planAll_43 : decode cX5_planAll 43 = .ok (.iload_n 3, 1) := by decide +kernel
theorem dX5_planAll_44 : decode cX5_planAll 44 = .ok (.aload_n 0, 1) := by decide +kernel
theorem dX5_planAll_45 : decode cX5_planAll 45 = .ok (.aload_n 1, 1) := by decide +kernel
theorem dX5_planAll_46 : decode cX5_planAll 46 = .ok (.iload 5, 2) := by decide +kernel
theorem dX5_planAll_48 : decode cX5_planAll 48 = .ok (.invokevirtual 23, 3) := by decide +kernel
theorem dX5_planAll_51 : decode cX5_planAll 51 = .ok (.ior, 1) := by decide +kernel
theorem dX5_planAll_52 : decode cX5_planAll 52 = .ok (.istore_n 3, 1) := by decide +kernel
theorem dX5_planAll_53 : decode cX5_planAll 53 = .ok (.iinc 4 1, 3) := by decide +kernel
theorem dX5_planAll_56 : decode cX5_planAll 56 = .ok (.goto (-51), 3) := by decide +kernel
theorem dX5_planAll_59 : decode cX5_planAll 59 = .ok (.return_, 1) := by decide +kernel
theorem dX5_firstOf_0 : decode cX5_firstOf 0 = .ok (.iconst 0, 1) := by decide +kernel
theorem dX5_firstOf_1 : decode cX5_firstOf 1 = .ok (.istore_n 3, 1) := by decide +kernel
theorem dX5_firstOf_2 : decode cX5_firstOf 2 = .ok (.iconst (-1), 1) := by decide +kernel
theorem dX5_firstOf_3 : decode cX5_firstOf 3 = .ok (.istore 4, 2) := by decide +kernel
theorem dX5_firstOf_5 : decode cX5_firstOf 5 = .ok (.iconst 0, 1) := by decide +kernel
theorem dX5_firstOf_6 : decode cX5_firstOf 6 = .ok (.istore 5, 2) := by decide +kernel
theorem dX5_firstOf_8 : decode cX5_firstOf 8 = .ok (.iload 5, 2) := by decide +kernel
theorem dX5_firstOf_10 : decode cX5_firstOf 10 = .ok (.aload_n 1, 1) := by decide +kernel
theorem dX5_firstOf_11 : decode cX5_firstOf 11 = .ok (.getfield 26, 3) := by decide +kernel
theorem dX5_firstOf_14 : decode cX5_firstOf 14 = .ok (.if_icmp .ge 44, 3) := by decide +kernel
theorem dX5_firstOf_17 : decode cX5_firstOf 17 = .ok (.aload_n 1, 1) := by decide +kernel
theorem dX5_firstOf_18 : decode cX5_firstOf 18 = .ok (.iload 5, 2) := by decide +kernel
theorem dX5_firstOf_20 : decode cX5_firstOf 20 = .ok (.invokevirtual 32, 3) := by decide +kernel
theorem dX5_firstOf_23 : decode cX5_firstOf 23 = .ok (.getfield 36, 3) := by decide +kernel
theorem dX5_firstOf_26 : decode cX5_firstOf 26 = .ok (.istore 6, 2) := by decide +kernel
theorem dX5_firstOf_28 : decode cX5_firstOf 28 = .ok (.iload_n 2, 1) := by decide +kernel
theorem dX5_firstOf_29 : decode cX5_firstOf 29 = .ok (.iload 5, 2) := by decide +kernel
theorem dX5_firstOf_31 : decode cX5_firstOf 31 = .ok (.ishr, 1) := by decide +kernel
theorem dX5_firstOf_32 : decode cX5_firstOf 32 = .ok (.iconst 1, 1) := by decide +kernel
theorem dX5_firstOf_33 : decode cX5_firstOf 33 = .ok (.iand, 1) := by decide +kernel
theorem dX5_firstOf_34 : decode cX5_firstOf 34 = .ok (.iconst 1, 1) := by decide +kernel
theorem dX5_firstOf_35 : decode cX5_firstOf 35 = .ok (.if_icmp .ne 17, 3) := by decide +kernel
theorem dX5_firstOf_38 : decode cX5_firstOf 38 = .ok (.iload 6, 2) := by decide +kernel
theorem dX5_firstOf_40 : decode cX5_firstOf 40 = .ok (.iload 4, 2) := by decide +kernel
theorem dX5_firstOf_42 : decode cX5_firstOf 42 = .ok (.if_icmp .le 10, 3) := by decide +kernel
theorem dX5_firstOf_45 : decode cX5_firstOf 45 = .ok (.iload 6, 2) := by decide +kernel
theorem dX5_firstOf_47 : decode cX5_firstOf 47 = .ok (.istore 4, 2) := by decide +kernel
theorem dX5_firstOf_49 : decode cX5_firstOf 49 = .ok (.iload 5, 2) := by decide +kernel
theorem dX5_firstOf_51 : decode cX5_firstOf 51 = .ok (.istore_n 3, 1) := by decide +kernel
theorem dX5_firstOf_52 : decode cX5_firstOf 52 = .ok (.iinc 5 1, 3) := by decide +kernel
theorem dX5_firstOf_55 : decode cX5_firstOf 55 = .ok (.goto (-47), 3) := by decide +kernel
theorem dX5_firstOf_58 : decode cX5_firstOf 58 = .ok (.iload_n 3, 1) := by decide +kernel
theorem dX5_firstOf_59 : decode cX5_firstOf 59 = .ok (.ireturn, 1) := by decide +kernel
theorem dX5_planOne_0 : decode cX5_planOne 0 = .ok (.aload_n 1, 1) := by decide +kernel
theorem dX5_planOne_1 : decode cX5_planOne 1 = .ok (.iload_n 2, 1) := by decide +kernel
theorem dX5_planOne_2 : decode cX5_planOne 2 = .ok (.invokevirtual 32, 3) := by decide +kernel
theorem dX5_planOne_5 : decode cX5_planOne 5 = .ok (.astore_n 3, 1) := by decide +kernel
theorem dX5_planOne_6 : decode cX5_planOne 6 = .ok (.aload_n 3, 1) := by decide +kernel
theorem dX5_planOne_7 : decode cX5_planOne 7 = .ok (.aload_n 1, 1) := by decide +kernel
theorem dX5_planOne_8 : decode cX5_planOne 8 = .ok (.getfield 41, 3) := by decide +kernel
theorem dX5_planOne_11 : decode cX5_planOne 11 = .ok (.invokevirtual 44, 3) := by decide +kernel
theorem dX5_planOne_14 : decode cX5_planOne 14 = .ok (.aload_n 3, 1) := by decide +kernel
theorem dX5_planOne_15 : decode cX5_planOne 15 = .ok (.invokevirtual 48, 3) := by decide +kernel
theorem dX5_planOne_18 : decode cX5_planOne 18 = .ok (.istore 4, 2) := by decide +kernel
theorem dX5_planOne_20 : decode cX5_planOne 20 = .ok (.iload 4, 2) := by decide +kernel
theorem dX5_planOne_22 : decode cX5_planOne 22 = .ok (.aload_n 3, 1) := by decide +kernel
theorem dX5_planOne_23 : decode cX5_planOne 23 = .ok (.getfield 52, 3) := by decide +kernel
theorem dX5_planOne_26 : decode cX5_planOne 26 = .ok (.if_icmp .ne 5, 3) := by decide +kernel
theorem dX5_planOne_29 : decode cX5_planOne 29 = .ok (.iconst 0, 1) := by decide +kernel
theorem dX5_planOne_30 : decode cX5_planOne 30 = .ok (.ireturn, 1) := by decide +kernel
theorem dX5_planOne_31 : decode cX5_planOne 31 = .ok (.aload_n 3, 1) := by decide +kernel
theorem dX5_planOne_32 : decode cX5_planOne 32 = .ok (.getfield 55, 3) := by decide +kernel
theorem dX5_planOne_35 : decode cX5_planOne 35 = .ok (.getfield 59, 3) := by decide +kernel
theorem dX5_planOne_38 : decode cX5_planOne 38 = .ok (.ifCond .ne 10, 3) := by decide +kernel
theorem dX5_planOne_41 : decode cX5_planOne 41 = .ok (.aload_n 1, 1) := by decide +kernel
theorem dX5_planOne_42 : decode cX5_planOne 42 = .ok (.getfield 41, 3) := by decide +kernel
theorem dX5_planOne_45 : decode cX5_planOne 45 = .ok (.goto 7, 3) := by decide +kernel
theorem dX5_planOne_48 : decode cX5_planOne 48 = .ok (.aload_n 3, 1) := by decide +kernel
theorem dX5_planOne_49 : decode cX5_planOne 49 = .ok (.invokevirtual 64, 3) := by decide +kernel
theorem dX5_planOne_52 : decode cX5_planOne 52 = .ok (.istore 5, 2) := by decide +kernel
theorem dX5_planOne_54 : decode cX5_planOne 54 = .ok (.aload_n 0, 1) := by decide +kernel
theorem dX5_planOne_55 : decode cX5_planOne 55 = .ok (.getfield 9, 3) := by decide +kernel
theorem dX5_planOne_58 : decode cX5_planOne 58 = .ok (.aload_n 1, 1) := by decide +kernel
theorem dX5_planOne_59 : decode cX5_planOne 59 = .ok (.aload_n 3, 1) := by decide +kernel
theorem dX5_planOne_60 : decode cX5_planOne 60 = .ok (.getfield 36, 3) := by decide +kernel
theorem dX5_planOne_63 : decode cX5_planOne 63 = .ok (.invokevirtual 67, 3) := by decide +kernel
theorem dX5_planOne_66 : decode cX5_planOne 66 = .ok (.aload_n 0, 1) := by decide +kernel
theorem dX5_planOne_67 : decode cX5_planOne 67 = .ok (.getfield 9, 3) := by decide +kernel
theorem dX5_planOne_70 : decode cX5_planOne 70 = .ok (.iload 4, 2) := by decide +kernel
theorem dX5_planOne_72 : decode cX5_planOne 72 = .ok (.iload 5, 2) := by decide +kernel
theorem dX5_planOne_74 : decode cX5_planOne 74 = .ok (.aload_n 3, 1) := by decide +kernel
theorem dX5_planOne_75 : decode cX5_planOne 75 = .ok (.getfield 52, 3) := by decide +kernel
theorem dX5_planOne_78 : decode cX5_planOne 78 = .ok (.aload_n 3, 1) := by decide +kernel
theorem dX5_planOne_79 : decode cX5_planOne 79 = .ok (.getfield 73, 3) := by decide +kernel
theorem dX5_planOne_82 : decode cX5_planOne 82 = .ok (.iconst (-1), 1) := by decide +kernel
theorem dX5_planOne_83 : decode cX5_planOne 83 = .ok (.invokevirtual 76, 3) := by decide +kernel
theorem dX5_planOne_86 : decode cX5_planOne 86 = .ok (.istore 6, 2) := by decide +kernel
theorem dX5_planOne_88 : decode cX5_planOne 88 = .ok (.iload 6, 2) := by decide +kernel
theorem dX5_planOne_90 : decode cX5_planOne 90 = .ok (.bipush (-9), 2) := by decide +kernel
theorem dX5_planOne_92 : decode cX5_planOne 92 = .ok (.if_icmp .eq 12, 3) := by decide +kernel
theorem dX5_planOne_95 : decode cX5_planOne 95 = .ok (.iload 6, 2) := by decide +kernel
theorem dX5_planOne_97 : decode cX5_planOne 97 = .ok (.aload_n 3, 1) := by decide +kernel
theorem dX5_planOne_98 : decode cX5_planOne 98 = .ok (.getfield 80, 3) := by decide +kernel
theorem dX5_planOne_101 : decode cX5_planOne 101 = .ok (.if_icmp .le 21, 3) := by decide +kernel
theorem dX5_planOne_104 : decode cX5_planOne 104 = .ok (.aload_n 3, 1) := by decide +kernel
theorem dX5_planOne_105 : decode cX5_planOne 105 = .ok (.iload 6, 2) := by decide +kernel
theorem dX5_planOne_107 : decode cX5_planOne 107 = .ok (.bipush (-9), 2) := by decide +kernel
theorem dX5_planOne_109 : decode cX5_planOne 109 = .ok (.if_icmp .ne 7, 3) := by decide +kernel
theorem dX5_planOne_112 : decode cX5_planOne 112 = .ok (.iconst 0, 1) := by decide +kernel
theorem dX5_planOne_113 : decode cX5_planOne 113 = .ok (.goto 4, 3) := by decide +kernel
theorem dX5_planOne_116 : decode cX5_planOne 116 = .ok (.iconst 1, 1) := by decide +kernel
theorem dX5_planOne_117 : decode cX5_planOne 117 = .ok (.putfield 83, 3) := by decide +kernel
theorem dX5_planOne_120 : decode cX5_planOne 120 = .ok (.iconst 0, 1) := by decide +kernel
theorem dX5_planOne_121 : decode cX5_planOne 121 = .ok (.ireturn, 1) := by decide +kernel
theorem dX5_planOne_122 : decode cX5_planOne 122 = .ok (.aload_n 3, 1) := by decide +kernel
theorem dX5_planOne_123 : decode cX5_planOne 123 = .ok (.getfield 55, 3) := by decide +kernel
theorem dX5_planOne_126 : decode cX5_planOne 126 = .ok (.aload_n 0, 1) := by decide +kernel
theorem dX5_planOne_127 : decode cX5_planOne 127 = .ok (.getfield 9, 3) := by decide +kernel
theorem dX5_planOne_130 : decode cX5_planOne 130 = .ok (.getfield 86, 3) := by decide +kernel
theorem dX5_planOne_133 : decode cX5_planOne 133 = .ok (.invokevirtual 89, 3) := by decide +kernel
theorem dX5_planOne_136 : decode cX5_planOne 136 = .ok (.iconst 1, 1) := by decide +kernel
theorem dX5_planOne_137 : decode cX5_planOne 137 = .ok (.ireturn, 1) := by decide +kernel
theorem dX5_pushOut_0 : decode cX5_pushOut 0 = .ok (.aload_n 1, 1) := by decide +kernel
theorem dX5_pushOut_1 : decode cX5_pushOut 1 = .ok (.iload_n 2, 1) := by decide +kernel
theorem dX5_pushOut_2 : decode cX5_pushOut 2 = .ok (.invokevirtual 32, 3) := by decide +kernel
theorem dX5_pushOut_5 : decode cX5_pushOut 5 = .ok (.astore_n 3, 1) := by decide +kernel
theorem dX5_pushOut_6 : decode cX5_pushOut 6 = .ok (.iconst 0, 1) := by decide +kernel
theorem dX5_pushOut_7 : decode cX5_pushOut 7 = .ok (.istore 4, 2) := by decide +kernel
theorem dX5_pushOut_9 : decode cX5_pushOut 9 = .ok (.iconst 0, 1) := by decide +kernel
theorem dX5_pushOut_10 : decode cX5_pushOut 10 = .ok (.istore 5, 2) := by decide +kernel
theorem dX5_pushOut_12 : decode cX5_pushOut 12 = .ok (.iload 5, 2) := by decide +kernel
theorem dX5_pushOut_14 : decode cX5_pushOut 14 = .ok (.aload_n 1, 1) := by decide +kernel
theorem dX5_pushOut_15 : decode cX5_pushOut 15 = .ok (.getfield 26, 3) := by decide +kernel
theorem dX5_pushOut_18 : decode cX5_pushOut 18 = .ok (.if_icmp .ge 60, 3) := by decide +kernel
theorem dX5_pushOut_21 : decode cX5_pushOut 21 = .ok (.aload_n 1, 1) := by decide +kernel
theorem dX5_pushOut_22 : decode cX5_pushOut 22 = .ok (.iload 5, 2) := by decide +kernel
theorem dX5_pushOut_24 : decode cX5_pushOut 24 = .ok (.invokevirtual 32, 3) := by decide +kernel
theorem dX5_pushOut_27 : decode cX5_pushOut 27 = .ok (.astore 6, 2) := by decide +kernel
theorem dX5_pushOut_29 : decode cX5_pushOut 29 = .ok (.aload 6, 2) := by decide +kernel
theorem dX5_pushOut_31 : decode cX5_pushOut 31 = .ok (.getfield 36, 3) := by decide +kernel
theorem dX5_pushOut_34 : decode cX5_pushOut 34 = .ok (.aload_n 3, 1) := by decide +kernel
theorem dX5_pushOut_35 : decode cX5_pushOut 35 = .ok (.getfield 36, 3) := by decide +kernel
theorem dX5_pushOut_38 : decode cX5_pushOut 38 = .ok (.if_icmp .ge 34, 3) := by decide +kernel
theorem dX5_pushOut_41 : decode cX5_pushOut 41 = .ok (.aload 6, 2) := by decide +kernel
theorem dX5_pushOut_43 : decode cX5_pushOut 43 = .ok (.aload_n 3, 1) := by decide +kernel
theorem dX5_pushOut_44 : decode cX5_pushOut 44 = .ok (.aload_n 1, 1) := by decide +kernel
theorem dX5_pushOut_45 : decode cX5_pushOut 45 = .ok (.getfield 41, 3) := by decide +kernel
theorem dX5_pushOut_48 : decode cX5_pushOut 48 = .ok (.invokevirtual 93, 3) := by decide +kernel
theorem dX5_pushOut_51 : decode cX5_pushOut 51 = .ok (.ifCond .eq 21, 3) := by decide +kernel
theorem dX5_pushOut_54 : decode cX5_pushOut 54 = .ok (.aload 6, 2) := by decide +kernel
theorem dX5_pushOut_56 : decode cX5_pushOut 56 = .ok (.aload_n 1, 1) := by decide +kernel
theorem dX5_pushOut_57 : decode cX5_pushOut 57 = .ok (.getfield 41, 3) := by decide +kernel
theorem dX5_pushOut_60 : decode cX5_pushOut 60 = .ok (.invokevirtual 44, 3) := by decide +kernel
theorem dX5_pushOut_63 : decode cX5_pushOut 63 = .ok (.iload 4, 2) := by decide +kernel
theorem dX5_pushOut_65 : decode cX5_pushOut 65 = .ok (.iconst 1, 1) := by decide +kernel
theorem dX5_pushOut_66 : decode cX5_pushOut 66 = .ok (.iload 5, 2) := by decide +kernel
theorem dX5_pushOut_68 : decode cX5_pushOut 68 = .ok (.ishl, 1) := by decide +kernel
theorem dX5_pushOut_69 : decode cX5_pushOut 69 = .ok (.ior, 1) := by decide +kernel
theorem dX5_pushOut_70 : decode cX5_pushOut 70 = .ok (.istore 4, 2) := by decide +kernel
theorem dX5_pushOut_72 : decode cX5_pushOut 72 = .ok (.iinc 5 1, 3) := by decide +kernel
theorem dX5_pushOut_75 : decode cX5_pushOut 75 = .ok (.goto (-63), 3) := by decide +kernel
theorem dX5_pushOut_78 : decode cX5_pushOut 78 = .ok (.iload 4, 2) := by decide +kernel
theorem dX5_pushOut_80 : decode cX5_pushOut 80 = .ok (.ireturn, 1) := by decide +kernel
theorem dX10_type_0 : decode cX10_type 0 = .ok (.iload_n 1, 1) := by decide +kernel
theorem dX10_type_1 : decode cX10_type 1 = .ok (.iconst 0, 1) := by decide +kernel
theorem dX10_type_2 : decode cX10_type 2 = .ok (.sipush 255, 3) := by decide +kernel
theorem dX10_type_5 : decode cX10_type 5 = .ok (.invokestatic 86, 3) := by decide +kernel
theorem dX10_type_8 : decode cX10_type 8 = .ok (.ifCond .ne 5, 3) := by decide +kernel
theorem dX10_type_11 : decode cX10_type 11 = .ok (.iconst (-1), 1) := by decide +kernel
theorem dX10_type_12 : decode cX10_type 12 = .ok (.ireturn, 1) := by decide +kernel
theorem dX10_type_13 : decode cX10_type 13 = .ok (.aload_n 0, 1) := by decide +kernel
theorem dX10_type_14 : decode cX10_type 14 = .ok (.getfield 12, 3) := by decide +kernel
theorem dX10_type_17 : decode cX10_type 17 = .ok (.invokevirtual 90, 3) := by decide +kernel
theorem dX10_type_20 : decode cX10_type 20 = .ok (.ifCond .eq 6, 3) := by decide +kernel
theorem dX10_type_23 : decode cX10_type 23 = .ok (.bipush (-3), 2) := by decide +kernel
theorem dX10_type_25 : decode cX10_type 25 = .ok (.ireturn, 1) := by decide +kernel
theorem dX10_type_26 : decode cX10_type 26 = .ok (.aload_n 0, 1) := by decide +kernel
theorem dX10_type_27 : decode cX10_type 27 = .ok (.getfield 12, 3) := by decide +kernel
theorem dX10_type_30 : decode cX10_type 30 = .ok (.iload_n 1, 1) := by decide +kernel
theorem dX10_type_31 : decode cX10_type 31 = .ok (.invokevirtual 94, 3) := by decide +kernel
theorem dX10_type_34 : decode cX10_type 34 = .ok (.aload_n 0, 1) := by decide +kernel
theorem dX10_type_35 : decode cX10_type 35 = .ok (.getfield 12, 3) := by decide +kernel
theorem dX10_type_38 : decode cX10_type 38 = .ok (.getfield 98, 3) := by decide +kernel
theorem dX10_type_41 : decode cX10_type 41 = .ok (.ireturn, 1) := by decide +kernel
theorem dX10_clear_0 : decode cX10_clear 0 = .ok (.aload_n 0, 1) := by decide +kernel
theorem dX10_clear_1 : decode cX10_clear 1 = .ok (.getfield 12, 3) := by decide +kernel
theorem dX10_clear_4 : decode cX10_clear 4 = .ok (.getfield 98, 3) := by decide +kernel
theorem dX10_clear_7 : decode cX10_clear 7 = .ok (.istore_n 1, 1) := by decide +kernel
theorem dX10_clear_8 : decode cX10_clear 8 = .ok (.aload_n 0, 1) := by decide +kernel
theorem dX10_clear_9 : decode cX10_clear 9 = .ok (.getfield 12, 3) := by decide +kernel
theorem dX10_clear_12 : decode cX10_clear 12 = .ok (.invokevirtual 101, 3) := by decide +kernel
theorem dX10_clear_15 : decode cX10_clear 15 = .ok (.iload_n 1, 1) := by decide +kernel
theorem dX10_clear_16 : decode cX10_clear 16 = .ok (.ireturn, 1) := by decide +kernel
theorem dX10_plan_0 : decode cX10_plan 0 = .ok (.aload_n 0, 1) := by decide +kernel
theorem dX10_plan_1 : decode cX10_plan 1 = .ok (.getfield 21, 3) := by decide +kernel
theorem dX10_plan_4 : decode cX10_plan 4 = .ok (.invokevirtual 104, 3) := by decide +kernel
theorem dX10_plan_7 : decode cX10_plan 7 = .ok (.istore_n 1, 1) := by decide +kernel
theorem dX10_plan_8 : decode cX10_plan 8 = .ok (.iload_n 1, 1) := by decide +kernel
theorem dX10_plan_9 : decode cX10_plan 9 = .ok (.ifCond .lt 51, 3) := by decide +kernel
theorem dX10_plan_12 : decode cX10_plan 12 = .ok (.aload_n 0, 1) := by decide +kernel
theorem dX10_plan_13 : decode cX10_plan 13 = .ok (.getfield 28, 3) := by decide +kernel
theorem dX10_plan_16 : decode cX10_plan 16 = .ok (.aload_n 0, 1) := by decide +kernel
theorem dX10_plan_17 : decode cX10_plan 17 = .ok (.getfield 21, 3) := by decide +kernel
theorem dX10_plan_20 : decode cX10_plan 20 = .ok (.getfield 108, 3) := by decide +kernel
theorem dX10_plan_23 : decode cX10_plan 23 = .ok (.invokevirtual 111, 3) := by decide +kernel
theorem dX10_plan_26 : decode cX10_plan 26 = .ok (.aload_n 0, 1) := by decide +kernel
theorem dX10_plan_27 : decode cX10_plan 27 = .ok (.getfield 12, 3) := by decide +kernel
theorem dX10_plan_30 : decode cX10_plan 30 = .ok (.invokevirtual 101, 3) := by decide +kernel
theorem dX10_plan_33 : decode cX10_plan 33 = .ok (.aload_n 0, 1) := by decide +kernel
theorem dX10_plan_34 : decode cX10_plan 34 = .ok (.getfield 53, 3) := by decide +kernel
theorem dX10_plan_37 : decode cX10_plan 37 = .ok (.invokevirtual 114, 3) := by decide +kernel
theorem dX10_plan_40 : decode cX10_plan 40 = .ok (.aload_n 0, 1) := by decide +kernel
theorem dX10_plan_41 : decode cX10_plan 41 = .ok (.getfield 63, 3) := by decide +kernel
theorem dX10_plan_44 : decode cX10_plan 44 = .ok (.invokevirtual 117, 3) := by decide +kernel
theorem dX10_plan_47 : decode cX10_plan 47 = .ok (.aload_n 0, 1) := by decide +kernel
theorem dX10_plan_48 : decode cX10_plan 48 = .ok (.iconst 0, 1) := by decide +kernel
theorem dX10_plan_49 : decode cX10_plan 49 = .ok (.putfield 82, 3) := by decide +kernel
theorem dX10_plan_52 : decode cX10_plan 52 = .ok (.aload_n 0, 1) := by decide +kernel
theorem dX10_plan_53 : decode cX10_plan 53 = .ok (.getfield 78, 3) := by decide +kernel
theorem dX10_plan_56 : decode cX10_plan 56 = .ok (.iconst 0, 1) := by decide +kernel
theorem dX10_plan_57 : decode cX10_plan 57 = .ok (.invokevirtual 120, 3) := by decide +kernel
theorem dX10_plan_60 : decode cX10_plan 60 = .ok (.iload_n 1, 1) := by decide +kernel
theorem dX10_plan_61 : decode cX10_plan 61 = .ok (.ireturn, 1) := by decide +kernel
theorem dX10_contact_0 : decode cX10_contact 0 = .ok (.aload_n 0, 1) := by decide +kernel
theorem dX10_contact_1 : decode cX10_contact 1 = .ok (.getfield 28, 3) := by decide +kernel
theorem dX10_contact_4 : decode cX10_contact 4 = .ok (.iload_n 1, 1) := by decide +kernel
theorem dX10_contact_5 : decode cX10_contact 5 = .ok (.invokevirtual 123, 3) := by decide +kernel
theorem dX10_contact_8 : decode cX10_contact 8 = .ok (.ifCond .eq 13, 3) := by decide +kernel
theorem dX10_contact_11 : decode cX10_contact 11 = .ok (.iload_n 2, 1) := by decide +kernel
theorem dX10_contact_12 : decode cX10_contact 12 = .ok (.iconst 0, 1) := by decide +kernel
theorem dX10_contact_13 : decode cX10_contact 13 = .ok (.bipush 6, 2) := by decide +kernel
theorem dX10_contact_15 : decode cX10_contact 15 = .ok (.invokestatic 86, 3) := by decide +kernel
theorem dX10_contact_18 : decode cX10_contact 18 = .ok (.ifCond .ne 5, 3) := by decide +kernel
theorem dX10_contact_21 : decode cX10_contact 21 = .ok (.iconst (-1), 1) := by decide +kernel
theorem dX10_contact_22 : decode cX10_contact 22 = .ok (.ireturn, 1) := by decide +kernel
theorem dX10_contact_23 : decode cX10_contact 23 = .ok (.iload_n 2, 1) := by decide +kernel
theorem dX10_contact_24 : decode cX10_contact 24 = .ok (.bipush 6, 2) := by decide +kernel
theorem dX10_contact_26 : decode cX10_contact 26 = .ok (.if_icmp .ne 20, 3) := by decide +kernel
theorem dX10_contact_29 : decode cX10_contact 29 = .ok (.aload_n 0, 1) := by decide +kernel
theorem dX10_contact_30 : decode cX10_contact 30 = .ok (.getfield 53, 3) := by decide +kernel
theorem dX10_contact_33 : decode cX10_contact 33 = .ok (.iload_n 1, 1) := by decide +kernel
theorem dX10_contact_34 : decode cX10_contact 34 = .ok (.invokevirtual 127, 3) := by decide +kernel
theorem dX10_contact_37 : decode cX10_contact 37 = .ok (.ifCond .eq 7, 3) := by decide +kernel
theorem dX10_contact_40 : decode cX10_contact 40 = .ok (.iconst 1, 1) := by decide +kernel
theorem dX10_contact_41 : decode cX10_contact 41 = .ok (.goto 4, 3) := by decide +kernel
theorem dX10_contact_44 : decode cX10_contact 44 = .ok (.iconst 0, 1) := by decide +kernel
theorem dX10_contact_45 : decode cX10_contact 45 = .ok (.ireturn, 1) := by decide +kernel
theorem dX10_contact_46 : decode cX10_contact 46 = .ok (.aload_n 0, 1) := by decide +kernel
theorem dX10_contact_47 : decode cX10_contact 47 = .ok (.getfield 28, 3) := by decide +kernel
theorem dX10_contact_50 : decode cX10_contact 50 = .ok (.iload_n 1, 1) := by decide +kernel
theorem dX10_contact_51 : decode cX10_contact 51 = .ok (.invokevirtual 130, 3) := by decide +kernel
theorem dX10_contact_54 : decode cX10_contact 54 = .ok (.iload_n 2, 1) := by decide +kernel
theorem dX10_contact_55 : decode cX10_contact 55 = .ok (.invokevirtual 134, 3) := by decide +kernel
theorem dX10_contact_58 : decode cX10_contact 58 = .ok (.ireturn, 1) := by decide +kernel
theorem dX10_sends_0 : decode cX10_sends 0 = .ok (.aload_n 0, 1) := by decide +kernel
theorem dX10_sends_1 : decode cX10_sends 1 = .ok (.iload_n 1, 1) := by decide +kernel
theorem dX10_sends_2 : decode cX10_sends 2 = .ok (.iload_n 2, 1) := by decide +kernel
theorem dX10_sends_3 : decode cX10_sends 3 = .ok (.iload_n 3, 1) := by decide +kernel
theorem dX10_sends_4 : decode cX10_sends 4 = .ok (.iload 5, 2) := by decide +kernel
theorem dX10_sends_6 : decode cX10_sends 6 = .ok (.invokevirtual 140, 3) := by decide +kernel
theorem dX10_sends_9 : decode cX10_sends 9 = .ok (.ifCond .eq 14, 3) := by decide +kernel
theorem dX10_sends_12 : decode cX10_sends 12 = .ok (.iload 4, 2) := by decide +kernel
theorem dX10_sends_14 : decode cX10_sends 14 = .ok (.iconst 0, 1) := by decide +kernel
theorem dX10_sends_15 : decode cX10_sends 15 = .ok (.bipush 99, 2) := by decide +kernel
theorem dX10_sends_17 : decode cX10_sends 17 = .ok (.invokestatic 86, 3) := by decide +kernel
theorem dX10_sends_20 : decode cX10_sends 20 = .ok (.ifCond .ne 5, 3) := by decide +kernel
theorem dX10_sends_23 : decode cX10_sends 23 = .ok (.iconst (-1), 1) := by decide +kernel
theorem dX10_sends_24 : decode cX10_sends 24 = .ok (.ireturn, 1) := by decide +kernel
theorem dX10_sends_25 : decode cX10_sends 25 = .ok (.aload_n 0, 1) := by decide +kernel
theorem dX10_sends_26 : decode cX10_sends 26 = .ok (.getfield 53, 3) := by decide +kernel
theorem dX10_sends_29 : decode cX10_sends 29 = .ok (.getfield 144, 3) := by decide +kernel
theorem dX10_sends_32 : decode cX10_sends 32 = .ok (.bipush 8, 2) := by decide +kernel
theorem dX10_sends_34 : decode cX10_sends 34 = .ok (.if_icmp .lt 6, 3) := by decide +kernel
theorem dX10_sends_37 : decode cX10_sends 37 = .ok (.bipush (-3), 2) := by decide +kernel
theorem dX10_sends_39 : decode cX10_sends 39 = .ok (.ireturn, 1) := by decide +kernel
theorem dX10_sends_40 : decode cX10_sends 40 = .ok (.aload_n 0, 1) := by decide +kernel
theorem dX10_sends_41 : decode cX10_sends 41 = .ok (.getfield 63, 3) := by decide +kernel
theorem dX10_sends_44 : decode cX10_sends 44 = .ok (.aload_n 0, 1) := by decide +kernel
theorem dX10_sends_45 : decode cX10_sends 45 = .ok (.getfield 53, 3) := by decide +kernel
theorem dX10_sends_48 : decode cX10_sends 48 = .ok (.invokevirtual 147, 3) := by decide +kernel
theorem dX10_sends_51 : decode cX10_sends 51 = .ok (.aload_n 0, 1) := by decide +kernel
theorem dX10_sends_52 : decode cX10_sends 52 = .ok (.getfield 53, 3) := by decide +kernel
theorem dX10_sends_55 : decode cX10_sends 55 = .ok (.invokevirtual 151, 3) := by decide +kernel
theorem dX10_sends_58 : decode cX10_sends 58 = .ok (.istore 6, 2) := by decide +kernel
theorem dX10_sends_60 : decode cX10_sends 60 = .ok (.aload_n 0, 1) := by decide +kernel
theorem dX10_sends_61 : decode cX10_sends 61 = .ok (.getfield 53, 3) := by decide +kernel
theorem dX10_sends_64 : decode cX10_sends 64 = .ok (.iload 6, 2) := by decide +kernel
theorem dX10_sends_66 : decode cX10_sends 66 = .ok (.invokevirtual 154, 3) := by decide +kernel
theorem dX10_sends_69 : decode cX10_sends 69 = .ok (.iload_n 1, 1) := by decide +kernel
theorem dX10_sends_70 : decode cX10_sends 70 = .ok (.iload_n 2, 1) := by decide +kernel
theorem dX10_sends_71 : decode cX10_sends 71 = .ok (.iload_n 3, 1) := by decide +kernel
theorem dX10_sends_72 : decode cX10_sends 72 = .ok (.iload 4, 2) := by decide +kernel
theorem dX10_sends_74 : decode cX10_sends 74 = .ok (.iload 5, 2) := by decide +kernel
theorem dX10_sends_76 : decode cX10_sends 76 = .ok (.invokevirtual 158, 3) := by decide +kernel
theorem dX10_sends_79 : decode cX10_sends 79 = .ok (.aload_n 0, 1) := by decide +kernel
theorem dX10_sends_80 : decode cX10_sends 80 = .ok (.getfield 53, 3) := by decide +kernel
theorem dX10_sends_83 : decode cX10_sends 83 = .ok (.iload 6, 2) := by decide +kernel
theorem dX10_sends_85 : decode cX10_sends 85 = .ok (.invokevirtual 164, 3) := by decide +kernel
theorem dX10_sends_88 : decode cX10_sends 88 = .ok (.ifCond .eq 18, 3) := by decide +kernel
theorem dX10_sends_91 : decode cX10_sends 91 = .ok (.aload_n 0, 1) := by decide +kernel
theorem dX10_sends_92 : decode cX10_sends 92 = .ok (.getfield 46, 3) := by decide +kernel
theorem dX10_sends_95 : decode cX10_sends 95 = .ok (.aload_n 0, 1) := by decide +kernel
theorem dX10_sends_96 : decode cX10_sends 96 = .ok (.getfield 53, 3) := by decide +kernel
theorem dX10_sends_99 : decode cX10_sends 99 = .ok (.iconst 1, 1) := by decide +kernel
theorem dX10_sends_100 : decode cX10_sends 100 = .ok (.iload 6, 2) := by decide +kernel
theorem dX10_sends_102 : decode cX10_sends 102 = .ok (.ishl, 1) := by decide +kernel
theorem dX10_sends_103 : decode cX10_sends 103 = .ok (.invokevirtual 167, 3) := by decide +kernel
theorem dX10_sends_106 : decode cX10_sends 106 = .ok (.aload_n 0, 1) := by decide +kernel
theorem dX10_sends_107 : decode cX10_sends 107 = .ok (.getfield 53, 3) := by decide +kernel
theorem dX10_sends_110 : decode cX10_sends 110 = .ok (.iload 6, 2) := by decide +kernel
theorem dX10_sends_112 : decode cX10_sends 112 = .ok (.invokevirtual 171, 3) := by decide +kernel
theorem dX10_sends_115 : decode cX10_sends 115 = .ok (.ireturn, 1) := by decide +kernel
theorem dX10_drops_0 : decode cX10_drops 0 = .ok (.aload_n 0, 1) := by decide +kernel
theorem dX10_drops_1 : decode cX10_drops 1 = .ok (.getfield 53, 3) := by decide +kernel
theorem dX10_drops_4 : decode cX10_drops 4 = .ok (.iload_n 1, 1) := by decide +kernel
theorem dX10_drops_5 : decode cX10_drops 5 = .ok (.invokevirtual 174, 3) := by decide +kernel
theorem dX10_drops_8 : decode cX10_drops 8 = .ok (.ifCond .ne 5, 3) := by decide +kernel
theorem dX10_drops_11 : decode cX10_drops 11 = .ok (.iconst (-1), 1) := by decide +kernel
theorem dX10_drops_12 : decode cX10_drops 12 = .ok (.ireturn, 1) := by decide +kernel
theorem dX10_drops_13 : decode cX10_drops 13 = .ok (.aload_n 0, 1) := by decide +kernel
theorem dX10_drops_14 : decode cX10_drops 14 = .ok (.getfield 53, 3) := by decide +kernel
theorem dX10_drops_17 : decode cX10_drops 17 = .ok (.iload_n 1, 1) := by decide +kernel
theorem dX10_drops_18 : decode cX10_drops 18 = .ok (.invokevirtual 164, 3) := by decide +kernel
theorem dX10_drops_21 : decode cX10_drops 21 = .ok (.ifCond .ne 6, 3) := by decide +kernel
theorem dX10_drops_24 : decode cX10_drops 24 = .ok (.bipush (-2), 2) := by decide +kernel
theorem dX10_drops_26 : decode cX10_drops 26 = .ok (.ireturn, 1) := by decide +kernel
theorem dX10_drops_27 : decode cX10_drops 27 = .ok (.aload_n 0, 1) := by decide +kernel
theorem dX10_drops_28 : decode cX10_drops 28 = .ok (.getfield 63, 3) := by decide +kernel
theorem dX10_drops_31 : decode cX10_drops 31 = .ok (.aload_n 0, 1) := by decide +kernel
theorem dX10_drops_32 : decode cX10_drops 32 = .ok (.getfield 53, 3) := by decide +kernel
theorem dX10_drops_35 : decode cX10_drops 35 = .ok (.invokevirtual 147, 3) := by decide +kernel
theorem dX10_drops_38 : decode cX10_drops 38 = .ok (.aload_n 0, 1) := by decide +kernel
theorem dX10_drops_39 : decode cX10_drops 39 = .ok (.getfield 53, 3) := by decide +kernel
theorem dX10_drops_42 : decode cX10_drops 42 = .ok (.iload_n 1, 1) := by decide +kernel
theorem dX10_drops_43 : decode cX10_drops 43 = .ok (.invokevirtual 154, 3) := by decide +kernel
theorem dX10_drops_46 : decode cX10_drops 46 = .ok (.aload_n 0, 1) := by decide +kernel
theorem dX10_drops_47 : decode cX10_drops 47 = .ok (.getfield 53, 3) := by decide +kernel
theorem dX10_drops_50 : decode cX10_drops 50 = .ok (.getfield 177, 3) := by decide +kernel
theorem dX10_drops_53 : decode cX10_drops 53 = .ok (.invokevirtual 180, 3) := by decide +kernel
theorem dX10_drops_56 : decode cX10_drops 56 = .ok (.iconst 1, 1) := by decide +kernel
theorem dX10_drops_57 : decode cX10_drops 57 = .ok (.ireturn, 1) := by decide +kernel
theorem dX10_passes_0 : decode cX10_passes 0 = .ok (.iload_n 1, 1) := by decide +kernel
theorem dX10_passes_1 : decode cX10_passes 1 = .ok (.iconst 1, 1) := by decide +kernel
theorem dX10_passes_2 : decode cX10_passes 2 = .ok (.bipush 99, 2) := by decide +kernel
theorem dX10_passes_4 : decode cX10_passes 4 = .ok (.invokestatic 86, 3) := by decide +kernel
theorem dX10_passes_7 : decode cX10_passes 7 = .ok (.ifCond .ne 5, 3) := by decide +kernel
theorem dX10_passes_10 : decode cX10_passes 10 = .ok (.iconst (-1), 1) := by decide +kernel
theorem dX10_passes_11 : decode cX10_passes 11 = .ok (.ireturn, 1) := by decide +kernel
theorem dX10_passes_12 : decode cX10_passes 12 = .ok (.aload_n 0, 1) := by decide +kernel
theorem dX10_passes_13 : decode cX10_passes 13 = .ok (.getfield 53, 3) := by decide +kernel
theorem dX10_passes_16 : decode cX10_passes 16 = .ok (.getfield 177, 3) := by decide +kernel
theorem dX10_passes_19 : decode cX10_passes 19 = .ok (.iload_n 1, 1) := by decide +kernel
theorem dX10_passes_20 : decode cX10_passes 20 = .ok (.iadd, 1) := by decide +kernel
theorem dX10_passes_21 : decode cX10_passes 21 = .ok (.bipush 99, 2) := by decide +kernel
theorem dX10_passes_23 : decode cX10_passes 23 = .ok (.if_icmp .le 6, 3) := by decide +kernel
theorem dX10_passes_26 : decode cX10_passes 26 = .ok (.bipush (-2), 2) := by decide +kernel
theorem dX10_passes_28 : decode cX10_passes 28 = .ok (.ireturn, 1) := by decide +kernel
theorem dX10_passes_29 : decode cX10_passes 29 = .ok (.aload_n 0, 1) := by decide +kernel
theorem dX10_passes_30 : decode cX10_passes 30 = .ok (.getfield 63, 3) := by decide +kernel
theorem dX10_passes_33 : decode cX10_passes 33 = .ok (.aload_n 0, 1) := by decide +kernel
theorem dX10_passes_34 : decode cX10_passes 34 = .ok (.getfield 53, 3) := by decide +kernel
theorem dX10_passes_37 : decode cX10_passes 37 = .ok (.invokevirtual 147, 3) := by decide +kernel
theorem dX10_passes_40 : decode cX10_passes 40 = .ok (.aload_n 0, 1) := by decide +kernel
theorem dX10_passes_41 : decode cX10_passes 41 = .ok (.getfield 53, 3) := by decide +kernel
theorem dX10_passes_44 : decode cX10_passes 44 = .ok (.iload_n 1, 1) := by decide +kernel
theorem dX10_passes_45 : decode cX10_passes 45 = .ok (.invokevirtual 183, 3) := by decide +kernel
theorem dX10_passes_48 : decode cX10_passes 48 = .ok (.aload_n 0, 1) := by decide +kernel
theorem dX10_passes_49 : decode cX10_passes 49 = .ok (.getfield 53, 3) := by decide +kernel
theorem dX10_passes_52 : decode cX10_passes 52 = .ok (.getfield 177, 3) := by decide +kernel
theorem dX10_passes_55 : decode cX10_passes 55 = .ok (.ireturn, 1) := by decide +kernel
theorem dX10_misses_0 : decode cX10_misses 0 = .ok (.aload_n 0, 1) := by decide +kernel
theorem dX10_misses_1 : decode cX10_misses 1 = .ok (.getfield 28, 3) := by decide +kernel
theorem dX10_misses_4 : decode cX10_misses 4 = .ok (.iload_n 1, 1) := by decide +kernel
theorem dX10_misses_5 : decode cX10_misses 5 = .ok (.invokevirtual 123, 3) := by decide +kernel
theorem dX10_misses_8 : decode cX10_misses 8 = .ok (.ifCond .ne 5, 3) := by decide +kernel
theorem dX10_misses_11 : decode cX10_misses 11 = .ok (.iconst (-1), 1) := by decide +kernel
theorem dX10_misses_12 : decode cX10_misses 12 = .ok (.ireturn, 1) := by decide +kernel
theorem dX10_misses_13 : decode cX10_misses 13 = .ok (.aload_n 0, 1) := by decide +kernel
theorem dX10_misses_14 : decode cX10_misses 14 = .ok (.getfield 53, 3) := by decide +kernel
theorem dX10_misses_17 : decode cX10_misses 17 = .ok (.iload_n 1, 1) := by decide +kernel
theorem dX10_misses_18 : decode cX10_misses 18 = .ok (.invokevirtual 127, 3) := by decide +kernel
theorem dX10_misses_21 : decode cX10_misses 21 = .ok (.ifCond .eq 6, 3) := by decide +kernel
theorem dX10_misses_24 : decode cX10_misses 24 = .ok (.bipush (-2), 2) := by decide +kernel
theorem dX10_misses_26 : decode cX10_misses 26 = .ok (.ireturn, 1) := by decide +kernel
theorem dX10_misses_27 : decode cX10_misses 27 = .ok (.aload_n 0, 1) := by decide +kernel
theorem dX10_misses_28 : decode cX10_misses 28 = .ok (.getfield 63, 3) := by decide +kernel
theorem dX10_misses_31 : decode cX10_misses 31 = .ok (.aload_n 0, 1) := by decide +kernel
theorem dX10_misses_32 : decode cX10_misses 32 = .ok (.getfield 53, 3) := by decide +kernel
theorem dX10_misses_35 : decode cX10_misses 35 = .ok (.invokevirtual 147, 3) := by decide +kernel
theorem dX10_misses_38 : decode cX10_misses 38 = .ok (.aload_n 0, 1) := by decide +kernel
theorem dX10_misses_39 : decode cX10_misses 39 = .ok (.getfield 46, 3) := by decide +kernel
theorem dX10_misses_42 : decode cX10_misses 42 = .ok (.aload_n 0, 1) := by decide +kernel
theorem dX10_misses_43 : decode cX10_misses 43 = .ok (.getfield 53, 3) := by decide +kernel
theorem dX10_misses_46 : decode cX10_misses 46 = .ok (.aload_n 0, 1) := by decide +kernel
theorem dX10_misses_47 : decode cX10_misses 47 = .ok (.getfield 53, 3) := by decide +kernel
theorem dX10_misses_50 : decode cX10_misses 50 = .ok (.iload_n 1, 1) := by decide +kernel
theorem dX10_misses_51 : decode cX10_misses 51 = .ok (.invokevirtual 186, 3) := by decide +kernel
theorem dX10_misses_54 : decode cX10_misses 54 = .ok (.invokevirtual 167, 3) := by decide +kernel
theorem dX10_misses_57 : decode cX10_misses 57 = .ok (.aload_n 0, 1) := by decide +kernel
theorem dX10_misses_58 : decode cX10_misses 58 = .ok (.getfield 53, 3) := by decide +kernel
theorem dX10_misses_61 : decode cX10_misses 61 = .ok (.iconst 0, 1) := by decide +kernel
theorem dX10_misses_62 : decode cX10_misses 62 = .ok (.invokevirtual 189, 3) := by decide +kernel
theorem dX10_misses_65 : decode cX10_misses 65 = .ok (.ireturn, 1) := by decide +kernel
theorem dX10_finds_0 : decode cX10_finds 0 = .ok (.aload_n 0, 1) := by decide +kernel
theorem dX10_finds_1 : decode cX10_finds 1 = .ok (.getfield 28, 3) := by decide +kernel
theorem dX10_finds_4 : decode cX10_finds 4 = .ok (.iload_n 1, 1) := by decide +kernel
theorem dX10_finds_5 : decode cX10_finds 5 = .ok (.invokevirtual 123, 3) := by decide +kernel
theorem dX10_finds_8 : decode cX10_finds 8 = .ok (.ifCond .ne 5, 3) := by decide +kernel
theorem dX10_finds_11 : decode cX10_finds 11 = .ok (.iconst (-1), 1) := by decide +kernel
theorem dX10_finds_12 : decode cX10_finds 12 = .ok (.ireturn, 1) := by decide +kernel
theorem dX10_finds_13 : decode cX10_finds 13 = .ok (.aload_n 0, 1) := by decide +kernel
theorem dX10_finds_14 : decode cX10_finds 14 = .ok (.getfield 53, 3) := by decide +kernel
theorem dX10_finds_17 : decode cX10_finds 17 = .ok (.iload_n 1, 1) := by decide +kernel
theorem dX10_finds_18 : decode cX10_finds 18 = .ok (.invokevirtual 127, 3) := by decide +kernel
theorem dX10_finds_21 : decode cX10_finds 21 = .ok (.ifCond .ne 6, 3) := by decide +kernel
theorem dX10_finds_24 : decode cX10_finds 24 = .ok (.bipush (-2), 2) := by decide +kernel
theorem dX10_finds_26 : decode cX10_finds 26 = .ok (.ireturn, 1) := by decide +kernel
theorem dX10_finds_27 : decode cX10_finds 27 = .ok (.aload_n 0, 1) := by decide +kernel
theorem dX10_finds_28 : decode cX10_finds 28 = .ok (.getfield 63, 3) := by decide +kernel
theorem dX10_finds_31 : decode cX10_finds 31 = .ok (.aload_n 0, 1) := by decide +kernel
theorem dX10_finds_32 : decode cX10_finds 32 = .ok (.getfield 53, 3) := by decide +kernel
theorem dX10_finds_35 : decode cX10_finds 35 = .ok (.invokevirtual 147, 3) := by decide +kernel
theorem dX10_finds_38 : decode cX10_finds 38 = .ok (.aload_n 0, 1) := by decide +kernel
theorem dX10_finds_39 : decode cX10_finds 39 = .ok (.getfield 46, 3) := by decide +kernel
theorem dX10_finds_42 : decode cX10_finds 42 = .ok (.aload_n 0, 1) := by decide +kernel
theorem dX10_finds_43 : decode cX10_finds 43 = .ok (.getfield 53, 3) := by decide +kernel
theorem dX10_finds_46 : decode cX10_finds 46 = .ok (.aload_n 0, 1) := by decide +kernel
theorem dX10_finds_47 : decode cX10_finds 47 = .ok (.getfield 53, 3) := by decide +kernel
theorem dX10_finds_50 : decode cX10_finds 50 = .ok (.iload_n 1, 1) := by decide +kernel
theorem dX10_finds_51 : decode cX10_finds 51 = .ok (.invokevirtual 192, 3) := by decide +kernel
theorem dX10_finds_54 : decode cX10_finds 54 = .ok (.invokevirtual 167, 3) := by decide +kernel
theorem dX10_finds_57 : decode cX10_finds 57 = .ok (.aload_n 0, 1) := by decide +kernel
theorem dX10_finds_58 : decode cX10_finds 58 = .ok (.getfield 53, 3) := by decide +kernel
theorem dX10_finds_61 : decode cX10_finds 61 = .ok (.iconst 0, 1) := by decide +kernel
theorem dX10_finds_62 : decode cX10_finds 62 = .ok (.invokevirtual 189, 3) := by decide +kernel
theorem dX10_finds_65 : decode cX10_finds 65 = .ok (.ireturn, 1) := by decide +kernel
theorem dX10_undo_0 : decode cX10_undo 0 = .ok (.aload_n 0, 1) := by decide +kernel
theorem dX10_undo_1 : decode cX10_undo 1 = .ok (.getfield 63, 3) := by decide +kernel
theorem dX10_undo_4 : decode cX10_undo 4 = .ok (.getfield 195, 3) := by decide +kernel
theorem dX10_undo_7 : decode cX10_undo 7 = .ok (.ifCond .ne 6, 3) := by decide +kernel
theorem dX10_undo_10 : decode cX10_undo 10 = .ok (.bipush (-2), 2) := by decide +kernel
theorem dX10_undo_12 : decode cX10_undo 12 = .ok (.ireturn, 1) := by decide +kernel
theorem dX10_undo_13 : decode cX10_undo 13 = .ok (.aload_n 0, 1) := by decide +kernel
theorem dX10_undo_14 : decode cX10_undo 14 = .ok (.getfield 63, 3) := by decide +kernel
theorem dX10_undo_17 : decode cX10_undo 17 = .ok (.aload_n 0, 1) := by decide +kernel
theorem dX10_undo_18 : decode cX10_undo 18 = .ok (.getfield 53, 3) := by decide +kernel
theorem dX10_undo_21 : decode cX10_undo 21 = .ok (.invokevirtual 198, 3) := by decide +kernel
theorem dX10_undo_24 : decode cX10_undo 24 = .ok (.aload_n 0, 1) := by decide +kernel
theorem dX10_undo_25 : decode cX10_undo 25 = .ok (.getfield 63, 3) := by decide +kernel
theorem dX10_undo_28 : decode cX10_undo 28 = .ok (.getfield 195, 3) := by decide +kernel
theorem dX10_undo_31 : decode cX10_undo 31 = .ok (.ireturn, 1) := by decide +kernel
theorem dX10_bundle_0 : decode cX10_bundle 0 = .ok (.aload_n 0, 1) := by decide +kernel
theorem dX10_bundle_1 : decode cX10_bundle 1 = .ok (.getfield 53, 3) := by decide +kernel
theorem dX10_bundle_4 : decode cX10_bundle 4 = .ok (.iload_n 1, 1) := by decide +kernel
theorem dX10_bundle_5 : decode cX10_bundle 5 = .ok (.invokevirtual 174, 3) := by decide +kernel
theorem dX10_bundle_8 : decode cX10_bundle 8 = .ok (.ifCond .eq 13, 3) := by decide +kernel
theorem dX10_bundle_11 : decode cX10_bundle 11 = .ok (.iload_n 2, 1) := by decide +kernel
theorem dX10_bundle_12 : decode cX10_bundle 12 = .ok (.iconst 0, 1) := by decide +kernel
theorem dX10_bundle_13 : decode cX10_bundle 13 = .ok (.bipush 8, 2) := by decide +kernel
theorem dX10_bundle_15 : decode cX10_bundle 15 = .ok (.invokestatic 86, 3) := by decide +kernel
theorem dX10_bundle_18 : decode cX10_bundle 18 = .ok (.ifCond .ne 5, 3) := by decide +kernel
theorem dX10_bundle_21 : decode cX10_bundle 21 = .ok (.iconst (-1), 1) := by decide +kernel
theorem dX10_bundle_22 : decode cX10_bundle 22 = .ok (.ireturn, 1) := by decide +kernel
theorem dX10_bundle_23 : decode cX10_bundle 23 = .ok (.aload_n 0, 1) := by decide +kernel
theorem dX10_bundle_24 : decode cX10_bundle 24 = .ok (.getfield 53, 3) := by decide +kernel
theorem dX10_bundle_27 : decode cX10_bundle 27 = .ok (.iload_n 1, 1) := by decide +kernel
theorem dX10_bundle_28 : decode cX10_bundle 28 = .ok (.invokevirtual 154, 3) := by decide +kernel
theorem dX10_bundle_31 : decode cX10_bundle 31 = .ok (.iload_n 2, 1) := by decide +kernel
theorem dX10_bundle_32 : decode cX10_bundle 32 = .ok (.aload_n 0, 1) := by decide +kernel
theorem dX10_bundle_33 : decode cX10_bundle 33 = .ok (.getfield 53, 3) := by decide +kernel
theorem dX10_bundle_36 : decode cX10_bundle 36 = .ok (.getfield 177, 3) := by decide +kernel
theorem dX10_bundle_39 : decode cX10_bundle 39 = .ok (.invokevirtual 201, 3) := by decide +kernel
theorem dX10_bundle_42 : decode cX10_bundle 42 = .ok (.ireturn, 1) := by decide +kernel
theorem dX10_hop_0 : decode cX10_hop 0 = .ok (.aload_n 0, 1) := by decide +kernel
theorem dX10_hop_1 : decode cX10_hop 1 = .ok (.getfield 53, 3) := by decide +kernel
theorem dX10_hop_4 : decode cX10_hop 4 = .ok (.iload_n 1, 1) := by decide +kernel
theorem dX10_hop_5 : decode cX10_hop 5 = .ok (.invokevirtual 174, 3) := by decide +kernel
theorem dX10_hop_8 : decode cX10_hop 8 = .ok (.ifCond .eq 16, 3) := by decide +kernel
theorem dX10_hop_11 : decode cX10_hop 11 = .ok (.iload_n 2, 1) := by decide +kernel
theorem dX10_hop_12 : decode cX10_hop 12 = .ok (.ifCond .lt 12, 3) := by decide +kernel
theorem dX10_hop_15 : decode cX10_hop 15 = .ok (.iload_n 3, 1) := by decide +kernel
theorem dX10_hop_16 : decode cX10_hop 16 = .ok (.iconst 0, 1) := by decide +kernel
theorem dX10_hop_17 : decode cX10_hop 17 = .ok (.iconst 1, 1) := by decide +kernel
theorem dX10_hop_18 : decode cX10_hop 18 = .ok (.invokestatic 86, 3) := by decide +kernel
theorem dX10_hop_21 : decode cX10_hop 21 = .ok (.ifCond .ne 5, 3) := by decide +kernel
theorem dX10_hop_24 : decode cX10_hop 24 = .ok (.iconst (-1), 1) := by decide +kernel
theorem dX10_hop_25 : decode cX10_hop 25 = .ok (.ireturn, 1) := by decide +kernel
theorem dX10_hop_26 : decode cX10_hop 26 = .ok (.aload_n 0, 1) := by decide +kernel
theorem dX10_hop_27 : decode cX10_hop 27 = .ok (.getfield 53, 3) := by decide +kernel
theorem dX10_hop_30 : decode cX10_hop 30 = .ok (.iload_n 1, 1) := by decide +kernel
theorem dX10_hop_31 : decode cX10_hop 31 = .ok (.invokevirtual 154, 3) := by decide +kernel
theorem dX10_hop_34 : decode cX10_hop 34 = .ok (.getfield 204, 3) := by decide +kernel
theorem dX10_hop_37 : decode cX10_hop 37 = .ok (.iload_n 2, 1) := by decide +kernel
theorem dX10_hop_38 : decode cX10_hop 38 = .ok (.iload_n 3, 1) := by decide +kernel
theorem dX10_hop_39 : decode cX10_hop 39 = .ok (.ifCond .ne 7, 3) := by decide +kernel
theorem dX10_hop_42 : decode cX10_hop 42 = .ok (.iconst 0, 1) := by decide +kernel
theorem dX10_hop_43 : decode cX10_hop 43 = .ok (.goto 4, 3) := by decide +kernel
theorem dX10_hop_46 : decode cX10_hop 46 = .ok (.iconst 1, 1) := by decide +kernel
theorem dX10_hop_47 : decode cX10_hop 47 = .ok (.invokevirtual 207, 3) := by decide +kernel
theorem dX10_hop_50 : decode cX10_hop 50 = .ok (.ireturn, 1) := by decide +kernel
theorem dX10_tick_0 : decode cX10_tick 0 = .ok (.aload_n 0, 1) := by decide +kernel
theorem dX10_tick_1 : decode cX10_tick 1 = .ok (.getfield 28, 3) := by decide +kernel
theorem dX10_tick_4 : decode cX10_tick 4 = .ok (.iload_n 1, 1) := by decide +kernel
theorem dX10_tick_5 : decode cX10_tick 5 = .ok (.invokevirtual 123, 3) := by decide +kernel
theorem dX10_tick_8 : decode cX10_tick 8 = .ok (.ifCond .eq 19, 3) := by decide +kernel
theorem dX10_tick_11 : decode cX10_tick 11 = .ok (.iload_n 2, 1) := by decide +kernel
theorem dX10_tick_12 : decode cX10_tick 12 = .ok (.aload_n 0, 1) := by decide +kernel
theorem dX10_tick_13 : decode cX10_tick 13 = .ok (.getfield 53, 3) := by decide +kernel
theorem dX10_tick_16 : decode cX10_tick 16 = .ok (.getfield 177, 3) := by decide +kernel
theorem dX10_tick_19 : decode cX10_tick 19 = .ok (.bipush 99, 2) := by decide +kernel
theorem dX10_tick_21 : decode cX10_tick 21 = .ok (.invokestatic 86, 3) := by decide +kernel
theorem dX10_tick_24 : decode cX10_tick 24 = .ok (.ifCond .ne 5, 3) := by decide +kernel
theorem dX10_tick_27 : decode cX10_tick 27 = .ok (.iconst (-1), 1) := by decide +kernel
theorem dX10_tick_28 : decode cX10_tick 28 = .ok (.ireturn, 1) := by decide +kernel
theorem dX10_tick_29 : decode cX10_tick 29 = .ok (.aload_n 0, 1) := by decide +kernel
theorem dX10_tick_30 : decode cX10_tick 30 = .ok (.getfield 53, 3) := by decide +kernel
theorem dX10_tick_33 : decode cX10_tick 33 = .ok (.iload_n 1, 1) := by decide +kernel
theorem dX10_tick_34 : decode cX10_tick 34 = .ok (.iload_n 2, 1) := by decide +kernel
theorem dX10_tick_35 : decode cX10_tick 35 = .ok (.invokevirtual 210, 3) := by decide +kernel
theorem dX10_tick_38 : decode cX10_tick 38 = .ok (.ireturn, 1) := by decide +kernel
theorem dX10_asks_0 : decode cX10_asks 0 = .ok (.aload_n 0, 1) := by decide +kernel
theorem dX10_asks_1 : decode cX10_asks 1 = .ok (.iload_n 1, 1) := by decide +kernel
theorem dX10_asks_2 : decode cX10_asks 2 = .ok (.iload_n 2, 1) := by decide +kernel
theorem dX10_asks_3 : decode cX10_asks 3 = .ok (.iload_n 3, 1) := by decide +kernel
theorem dX10_asks_4 : decode cX10_asks 4 = .ok (.iload 4, 2) := by decide +kernel
theorem dX10_asks_6 : decode cX10_asks 6 = .ok (.invokevirtual 140, 3) := by decide +kernel
theorem dX10_asks_9 : decode cX10_asks 9 = .ok (.ifCond .ne 5, 3) := by decide +kernel
theorem dX10_asks_12 : decode cX10_asks 12 = .ok (.iconst (-1), 1) := by decide +kernel
theorem dX10_asks_13 : decode cX10_asks 13 = .ok (.ireturn, 1) := by decide +kernel
theorem dX10_asks_14 : decode cX10_asks 14 = .ok (.aload_n 0, 1) := by decide +kernel
theorem dX10_asks_15 : decode cX10_asks 15 = .ok (.getfield 37, 3) := by decide +kernel
theorem dX10_asks_18 : decode cX10_asks 18 = .ok (.aload_n 0, 1) := by decide +kernel
theorem dX10_asks_19 : decode cX10_asks 19 = .ok (.getfield 53, 3) := by decide +kernel
theorem dX10_asks_22 : decode cX10_asks 22 = .ok (.iload 4, 2) := by decide +kernel
theorem dX10_asks_24 : decode cX10_asks 24 = .ok (.invokevirtual 213, 3) := by decide +kernel
theorem dX10_asks_27 : decode cX10_asks 27 = .ok (.aload_n 0, 1) := by decide +kernel
theorem dX10_asks_28 : decode cX10_asks 28 = .ok (.iload_n 1, 1) := by decide +kernel
theorem dX10_asks_29 : decode cX10_asks 29 = .ok (.iload_n 2, 1) := by decide +kernel
theorem dX10_asks_30 : decode cX10_asks 30 = .ok (.iload_n 3, 1) := by decide +kernel
theorem dX10_asks_31 : decode cX10_asks 31 = .ok (.iconst (-1), 1) := by decide +kernel
theorem dX10_asks_32 : decode cX10_asks 32 = .ok (.invokevirtual 216, 3) := by decide +kernel
theorem dX10_asks_35 : decode cX10_asks 35 = .ok (.ireturn, 1) := by decide +kernel
theorem dX10_largest_0 : decode cX10_largest 0 = .ok (.aload_n 0, 1) := by decide +kernel
theorem dX10_largest_1 : decode cX10_largest 1 = .ok (.iload_n 1, 1) := by decide +kernel
theorem dX10_largest_2 : decode cX10_largest 2 = .ok (.iload_n 2, 1) := by decide +kernel
theorem dX10_largest_3 : decode cX10_largest 3 = .ok (.iconst 1, 1) := by decide +kernel
theorem dX10_largest_4 : decode cX10_largest 4 = .ok (.iload_n 3, 1) := by decide +kernel
theorem dX10_largest_5 : decode cX10_largest 5 = .ok (.invokevirtual 140, 3) := by decide +kernel
theorem dX10_largest_8 : decode cX10_largest 8 = .ok (.ifCond .eq 14, 3) := by decide +kernel
theorem dX10_largest_11 : decode cX10_largest 11 = .ok (.iload 4, 2) := by decide +kernel
theorem dX10_largest_13 : decode cX10_largest 13 = .ok (.iconst 0, 1) := by decide +kernel
theorem dX10_largest_14 : decode cX10_largest 14 = .ok (.bipush 120, 2) := by decide +kernel
theorem dX10_largest_16 : decode cX10_largest 16 = .ok (.invokestatic 86, 3) := by decide +kernel
theorem dX10_largest_19 : decode cX10_largest 19 = .ok (.ifCond .ne 5, 3) := by decide +kernel
theorem dX10_largest_22 : decode cX10_largest 22 = .ok (.iconst (-1), 1) := by decide +kernel
theorem dX10_largest_23 : decode cX10_largest 23 = .ok (.ireturn, 1) := by decide +kernel
theorem dX10_largest_24 : decode cX10_largest 24 = .ok (.aload_n 0, 1) := by decide +kernel
theorem dX10_largest_25 : decode cX10_largest 25 = .ok (.getfield 37, 3) := by decide +kernel
theorem dX10_largest_28 : decode cX10_largest 28 = .ok (.aload_n 0, 1) := by decide +kernel
theorem dX10_largest_29 : decode cX10_largest 29 = .ok (.getfield 53, 3) := by decide +kernel
theorem dX10_largest_32 : decode cX10_largest 32 = .ok (.iload_n 3, 1) := by decide +kernel
theorem dX10_largest_33 : decode cX10_largest 33 = .ok (.invokevirtual 213, 3) := by decide +kernel
theorem dX10_largest_36 : decode cX10_largest 36 = .ok (.bipush 20, 2) := by decide +kernel
theorem dX10_largest_38 : decode cX10_largest 38 = .ok (.istore 5, 2) := by decide +kernel
theorem dX10_largest_40 : decode cX10_largest 40 = .ok (.iload 5, 2) := by decide +kernel
theorem dX10_largest_42 : decode cX10_largest 42 = .ok (.iconst 1, 1) := by decide +kernel
theorem dX10_largest_43 : decode cX10_largest 43 = .ok (.if_icmp .lt 37, 3) := by decide +kernel
theorem dX10_largest_46 : decode cX10_largest 46 = .ok (.aload_n 0, 1) := by decide +kernel
theorem dX10_largest_47 : decode cX10_largest 47 = .ok (.iload_n 1, 1) := by decide +kernel
theorem dX10_largest_48 : decode cX10_largest 48 = .ok (.iload_n 2, 1) := by decide +kernel
theorem dX10_largest_49 : decode cX10_largest 49 = .ok (.iload 5, 2) := by decide +kernel
theorem dX10_largest_51 : decode cX10_largest 51 = .ok (.iconst (-1), 1) := by decide +kernel
theorem dX10_largest_52 : decode cX10_largest 52 = .ok (.invokevirtual 216, 3) := by decide +kernel
theorem dX10_largest_55 : decode cX10_largest 55 = .ok (.istore 6, 2) := by decide +kernel
theorem dX10_largest_57 : decode cX10_largest 57 = .ok (.iload 6, 2) := by decide +kernel
theorem dX10_largest_59 : decode cX10_largest 59 = .ok (.bipush (-9), 2) := by decide +kernel
theorem dX10_largest_61 : decode cX10_largest 61 = .ok (.if_icmp .eq 13, 3) := by decide +kernel
theorem dX10_largest_64 : decode cX10_largest 64 = .ok (.iload 6, 2) := by decide +kernel
theorem dX10_largest_66 : decode cX10_largest 66 = .ok (.iload 4, 2) := by decide +kernel
theorem dX10_largest_68 : decode cX10_largest 68 = .ok (.if_icmp .gt 6, 3) := by decide +kernel
theorem dX10_largest_71 : decode cX10_largest 71 = .ok (.iload 5, 2) := by decide +kernel
theorem dX10_largest_73 : decode cX10_largest 73 = .ok (.ireturn, 1) := by decide +kernel
theorem dX10_largest_74 : decode cX10_largest 74 = .ok (.iinc 5 (-1), 3) := by decide +kernel
theorem dX10_largest_77 : decode cX10_largest 77 = .ok (.goto (-37), 3) := by decide +kernel
theorem dX10_largest_80 : decode cX10_largest 80 = .ok (.bipush (-9), 2) := by decide +kernel
theorem dX10_largest_82 : decode cX10_largest 82 = .ok (.ireturn, 1) := by decide +kernel
theorem dX10_worst_0 : decode cX10_worst 0 = .ok (.bipush (-9), 2) := by decide +kernel
theorem dX10_worst_2 : decode cX10_worst 2 = .ok (.istore_n 1, 1) := by decide +kernel
theorem dX10_worst_3 : decode cX10_worst 3 = .ok (.iconst (-1), 1) := by decide +kernel
theorem dX10_worst_4 : decode cX10_worst 4 = .ok (.istore_n 2, 1) := by decide +kernel
theorem dX10_worst_5 : decode cX10_worst 5 = .ok (.iconst 0, 1) := by decide +kernel
theorem dX10_worst_6 : decode cX10_worst 6 = .ok (.istore_n 3, 1) := by decide +kernel
theorem dX10_worst_7 : decode cX10_worst 7 = .ok (.iload_n 3, 1) := by decide +kernel
theorem dX10_worst_8 : decode cX10_worst 8 = .ok (.aload_n 0, 1) := by decide +kernel
theorem dX10_worst_9 : decode cX10_worst 9 = .ok (.getfield 28, 3) := by decide +kernel
theorem dX10_worst_12 : decode cX10_worst 12 = .ok (.getfield 220, 3) := by decide +kernel
theorem dX10_worst_15 : decode cX10_worst 15 = .ok (.if_icmp .ge 71, 3) := by decide +kernel
theorem dX10_worst_18 : decode cX10_worst 18 = .ok (.aload_n 0, 1) := by decide +kernel
theorem dX10_worst_19 : decode cX10_worst 19 = .ok (.getfield 53, 3) := by decide +kernel
theorem dX10_worst_22 : decode cX10_worst 22 = .ok (.iload_n 3, 1) := by decide +kernel
theorem dX10_worst_23 : decode cX10_worst 23 = .ok (.invokevirtual 127, 3) := by decide +kernel
theorem dX10_worst_26 : decode cX10_worst 26 = .ok (.ifCond .ne 54, 3) := by decide +kernel
theorem dX10_worst_29 : decode cX10_worst 29 = .ok (.aload_n 0, 1) := by decide +kernel
theorem dX10_worst_30 : decode cX10_worst 30 = .ok (.getfield 57, 3) := by decide +kernel
theorem dX10_worst_33 : decode cX10_worst 33 = .ok (.aload_n 0, 1) := by decide +kernel
theorem dX10_worst_34 : decode cX10_worst 34 = .ok (.getfield 53, 3) := by decide +kernel
theorem dX10_worst_37 : decode cX10_worst 37 = .ok (.invokevirtual 223, 3) := by decide +kernel
theorem dX10_worst_40 : decode cX10_worst 40 = .ok (.aload_n 0, 1) := by decide +kernel
theorem dX10_worst_41 : decode cX10_worst 41 = .ok (.getfield 46, 3) := by decide +kernel
theorem dX10_worst_44 : decode cX10_worst 44 = .ok (.aload_n 0, 1) := by decide +kernel
theorem dX10_worst_45 : decode cX10_worst 45 = .ok (.getfield 57, 3) := by decide +kernel
theorem dX10_worst_48 : decode cX10_worst 48 = .ok (.aload_n 0, 1) := by decide +kernel
theorem dX10_worst_49 : decode cX10_worst 49 = .ok (.getfield 57, 3) := by decide +kernel
theorem dX10_worst_52 : decode cX10_worst 52 = .ok (.iload_n 3, 1) := by decide +kernel
theorem dX10_worst_53 : decode cX10_worst 53 = .ok (.invokevirtual 186, 3) := by decide +kernel
theorem dX10_worst_56 : decode cX10_worst 56 = .ok (.invokevirtual 167, 3) := by decide +kernel
theorem dX10_worst_59 : decode cX10_worst 59 = .ok (.aload_n 0, 1) := by decide +kernel
theorem dX10_worst_60 : decode cX10_worst 60 = .ok (.getfield 57, 3) := by decide +kernel
theorem dX10_worst_63 : decode cX10_worst 63 = .ok (.iconst 0, 1) := by decide +kernel
theorem dX10_worst_64 : decode cX10_worst 64 = .ok (.invokevirtual 189, 3) := by decide +kernel
theorem dX10_worst_67 : decode cX10_worst 67 = .ok (.istore 4, 2) := by decide +kernel
theorem dX10_worst_69 : decode cX10_worst 69 = .ok (.iload 4, 2) := by decide +kernel
theorem dX10_worst_71 : decode cX10_worst 71 = .ok (.iload_n 2, 1) := by decide +kernel
theorem dX10_worst_72 : decode cX10_worst 72 = .ok (.if_icmp .le 8, 3) := by decide +kernel
theorem dX10_worst_75 : decode cX10_worst 75 = .ok (.iload 4, 2) := by decide +kernel
theorem dX10_worst_77 : decode cX10_worst 77 = .ok (.istore_n 2, 1) := by decide +kernel
theorem dX10_worst_78 : decode cX10_worst 78 = .ok (.iload_n 3, 1) := by decide +kernel
theorem dX10_worst_79 : decode cX10_worst 79 = .ok (.istore_n 1, 1) := by decide +kernel
theorem dX10_worst_80 : decode cX10_worst 80 = .ok (.iinc 3 1, 3) := by decide +kernel
theorem dX10_worst_83 : decode cX10_worst 83 = .ok (.goto (-76), 3) := by decide +kernel
theorem dX10_worst_86 : decode cX10_worst 86 = .ok (.iload_n 1, 1) := by decide +kernel
theorem dX10_worst_87 : decode cX10_worst 87 = .ok (.ireturn, 1) := by decide +kernel
theorem dX10_sees_0 : decode cX10_sees 0 = .ok (.aload_n 0, 1) := by decide +kernel
theorem dX10_sees_1 : decode cX10_sees 1 = .ok (.getfield 28, 3) := by decide +kernel
theorem dX10_sees_4 : decode cX10_sees 4 = .ok (.iload_n 1, 1) := by decide +kernel
theorem dX10_sees_5 : decode cX10_sees 5 = .ok (.invokevirtual 225, 3) := by decide +kernel
theorem dX10_sees_8 : decode cX10_sees 8 = .ok (.ifCond .eq 29, 3) := by decide +kernel
theorem dX10_sees_11 : decode cX10_sees 11 = .ok (.aload_n 0, 1) := by decide +kernel
theorem dX10_sees_12 : decode cX10_sees 12 = .ok (.getfield 28, 3) := by decide +kernel
theorem dX10_sees_15 : decode cX10_sees 15 = .ok (.iload_n 2, 1) := by decide +kernel
theorem dX10_sees_16 : decode cX10_sees 16 = .ok (.invokevirtual 225, 3) := by decide +kernel
theorem dX10_sees_19 : decode cX10_sees 19 = .ok (.ifCond .eq 18, 3) := by decide +kernel
theorem dX10_sees_22 : decode cX10_sees 22 = .ok (.iload_n 1, 1) := by decide +kernel
theorem dX10_sees_23 : decode cX10_sees 23 = .ok (.iload_n 2, 1) := by decide +kernel
theorem dX10_sees_24 : decode cX10_sees 24 = .ok (.if_icmp .eq 13, 3) := by decide +kernel
theorem dX10_sees_27 : decode cX10_sees 27 = .ok (.iload_n 3, 1) := by decide +kernel
theorem dX10_sees_28 : decode cX10_sees 28 = .ok (.iconst 0, 1) := by decide +kernel
theorem dX10_sees_29 : decode cX10_sees 29 = .ok (.bipush 121, 2) := by decide +kernel
theorem dX10_sees_31 : decode cX10_sees 31 = .ok (.invokestatic 86, 3) := by decide +kernel
theorem dX10_sees_34 : decode cX10_sees 34 = .ok (.ifCond .ne 5, 3) := by decide +kernel
theorem dX10_sees_37 : decode cX10_sees 37 = .ok (.iconst (-1), 1) := by decide +kernel
theorem dX10_sees_38 : decode cX10_sees 38 = .ok (.ireturn, 1) := by decide +kernel
theorem dX10_sees_39 : decode cX10_sees 39 = .ok (.aload_n 0, 1) := by decide +kernel
theorem dX10_sees_40 : decode cX10_sees 40 = .ok (.getfield 78, 3) := by decide +kernel
theorem dX10_sees_43 : decode cX10_sees 43 = .ok (.getfield 228, 3) := by decide +kernel
theorem dX10_sees_46 : decode cX10_sees 46 = .ok (.bipush 6, 2) := by decide +kernel
theorem dX10_sees_48 : decode cX10_sees 48 = .ok (.if_icmp .lt 6, 3) := by decide +kernel
theorem dX10_sees_51 : decode cX10_sees 51 = .ok (.bipush (-3), 2) := by decide +kernel
theorem dX10_sees_53 : decode cX10_sees 53 = .ok (.ireturn, 1) := by decide +kernel
theorem dX10_sees_54 : decode cX10_sees 54 = .ok (.aload_n 0, 1) := by decide +kernel
theorem dX10_sees_55 : decode cX10_sees 55 = .ok (.getfield 78, 3) := by decide +kernel
theorem dX10_sees_58 : decode cX10_sees 58 = .ok (.invokevirtual 231, 3) := by decide +kernel
theorem dX10_sees_61 : decode cX10_sees 61 = .ok (.istore 4, 2) := by decide +kernel
theorem dX10_sees_63 : decode cX10_sees 63 = .ok (.aload_n 0, 1) := by decide +kernel
theorem dX10_sees_64 : decode cX10_sees 64 = .ok (.getfield 78, 3) := by decide +kernel
theorem dX10_sees_67 : decode cX10_sees 67 = .ok (.iload 4, 2) := by decide +kernel
theorem dX10_sees_69 : decode cX10_sees 69 = .ok (.iconst 0, 1) := by decide +kernel
theorem dX10_sees_70 : decode cX10_sees 70 = .ok (.iload_n 1, 1) := by decide +kernel
theorem dX10_sees_71 : decode cX10_sees 71 = .ok (.invokevirtual 234, 3) := by decide +kernel
theorem dX10_sees_74 : decode cX10_sees 74 = .ok (.aload_n 0, 1) := by decide +kernel
theorem dX10_sees_75 : decode cX10_sees 75 = .ok (.getfield 78, 3) := by decide +kernel
theorem dX10_sees_78 : decode cX10_sees 78 = .ok (.iload 4, 2) := by decide +kernel
theorem dX10_sees_80 : decode cX10_sees 80 = .ok (.iconst 1, 1) := by decide +kernel
theorem dX10_sees_81 : decode cX10_sees 81 = .ok (.iload_n 2, 1) := by decide +kernel
theorem dX10_sees_82 : decode cX10_sees 82 = .ok (.invokevirtual 234, 3) := by decide +kernel
theorem dX10_sees_85 : decode cX10_sees 85 = .ok (.aload_n 0, 1) := by decide +kernel
theorem dX10_sees_86 : decode cX10_sees 86 = .ok (.getfield 78, 3) := by decide +kernel
theorem dX10_sees_89 : decode cX10_sees 89 = .ok (.iload 4, 2) := by decide +kernel
theorem dX10_sees_91 : decode cX10_sees 91 = .ok (.iconst 2, 1) := by decide +kernel
theorem dX10_sees_92 : decode cX10_sees 92 = .ok (.iload_n 3, 1) := by decide +kernel
theorem dX10_sees_93 : decode cX10_sees 93 = .ok (.invokevirtual 234, 3) := by decide +kernel
theorem dX10_sees_96 : decode cX10_sees 96 = .ok (.aload_n 0, 1) := by decide +kernel
theorem dX10_sees_97 : decode cX10_sees 97 = .ok (.getfield 78, 3) := by decide +kernel
theorem dX10_sees_100 : decode cX10_sees 100 = .ok (.getfield 228, 3) := by decide +kernel
theorem dX10_sees_103 : decode cX10_sees 103 = .ok (.ireturn, 1) := by decide +kernel
theorem dX10_forget_0 : decode cX10_forget 0 = .ok (.aload_n 0, 1) := by decide +kernel
theorem dX10_forget_1 : decode cX10_forget 1 = .ok (.getfield 78, 3) := by decide +kernel
theorem dX10_forget_4 : decode cX10_forget 4 = .ok (.getfield 228, 3) := by decide +kernel
theorem dX10_forget_7 : decode cX10_forget 7 = .ok (.istore_n 1, 1) := by decide +kernel
theorem dX10_forget_8 : decode cX10_forget 8 = .ok (.aload_n 0, 1) := by decide +kernel
theorem dX10_forget_9 : decode cX10_forget 9 = .ok (.getfield 78, 3) := by decide +kernel
theorem dX10_forget_12 : decode cX10_forget 12 = .ok (.iconst 0, 1) := by decide +kernel
theorem dX10_forget_13 : decode cX10_forget 13 = .ok (.invokevirtual 120, 3) := by decide +kernel
theorem dX10_forget_16 : decode cX10_forget 16 = .ok (.iload_n 1, 1) := by decide +kernel
theorem dX10_forget_17 : decode cX10_forget 17 = .ok (.ireturn, 1) := by decide +kernel
theorem dX10_unseen_0 : decode cX10_unseen 0 = .ok (.aload_n 0, 1) := by decide +kernel
theorem dX10_unseen_1 : decode cX10_unseen 1 = .ok (.getfield 37, 3) := by decide +kernel
theorem dX10_unseen_4 : decode cX10_unseen 4 = .ok (.aload_n 0, 1) := by decide +kernel
theorem dX10_unseen_5 : decode cX10_unseen 5 = .ok (.getfield 53, 3) := by decide +kernel
theorem dX10_unseen_8 : decode cX10_unseen 8 = .ok (.iconst 2, 1) := by decide +kernel
theorem dX10_unseen_9 : decode cX10_unseen 9 = .ok (.invokevirtual 213, 3) := by decide +kernel
theorem dX10_unseen_12 : decode cX10_unseen 12 = .ok (.iconst 0, 1) := by decide +kernel
theorem dX10_unseen_13 : decode cX10_unseen 13 = .ok (.istore_n 1, 1) := by decide +kernel
theorem dX10_unseen_14 : decode cX10_unseen 14 = .ok (.iconst 0, 1) := by decide +kernel
theorem dX10_unseen_15 : decode cX10_unseen 15 = .ok (.istore_n 2, 1) := by decide +kernel
theorem dX10_unseen_16 : decode cX10_unseen 16 = .ok (.iload_n 2, 1) := by decide +kernel
theorem dX10_unseen_17 : decode cX10_unseen 17 = .ok (.aload_n 0, 1) := by decide +kernel
theorem dX10_unseen_18 : decode cX10_unseen 18 = .ok (.getfield 28, 3) := by decide +kernel
theorem dX10_unseen_21 : decode cX10_unseen 21 = .ok (.getfield 220, 3) := by decide +kernel
theorem dX10_unseen_24 : decode cX10_unseen 24 = .ok (.if_icmp .ge 34, 3) := by decide +kernel
theorem dX10_unseen_27 : decode cX10_unseen 27 = .ok (.aload_n 0, 1) := by decide +kernel
theorem dX10_unseen_28 : decode cX10_unseen 28 = .ok (.getfield 53, 3) := by decide +kernel
theorem dX10_unseen_31 : decode cX10_unseen 31 = .ok (.iload_n 2, 1) := by decide +kernel
theorem dX10_unseen_32 : decode cX10_unseen 32 = .ok (.invokevirtual 127, 3) := by decide +kernel
theorem dX10_unseen_35 : decode cX10_unseen 35 = .ok (.ifCond .ne 17, 3) := by decide +kernel
theorem dX10_unseen_38 : decode cX10_unseen 38 = .ok (.aload_n 0, 1) := by decide +kernel
theorem dX10_unseen_39 : decode cX10_unseen 39 = .ok (.iload_n 2, 1) := by decide +kernel
theorem dX10_unseen_40 : decode cX10_unseen 40 = .ok (.invokevirtual 238, 3) := by decide +kernel
theorem dX10_unseen_43 : decode cX10_unseen 43 = .ok (.ifCond .eq 9, 3) := by decide +kernel
theorem dX10_unseen_46 : decode cX10_unseen 46 = .ok (.iload_n 1, 1) := by decide +kernel
theorem dX10_unseen_47 : decode cX10_unseen 47 = .ok (.iconst 1, 1) := by decide +kernel
theorem dX10_unseen_48 : decode cX10_unseen 48 = .ok (.iload_n 2, 1) := by decide +kernel
theorem dX10_unseen_49 : decode cX10_unseen 49 = .ok (.ishl, 1) := by decide +kernel
theorem dX10_unseen_50 : decode cX10_unseen 50 = .ok (.ior, 1) := by decide +kernel
theorem dX10_unseen_51 : decode cX10_unseen 51 = .ok (.istore_n 1, 1) := by decide +kernel
theorem dX10_unseen_52 : decode cX10_unseen 52 = .ok (.iinc 2 1, 3) := by decide +kernel
theorem dX10_unseen_55 : decode cX10_unseen 55 = .ok (.goto (-39), 3) := by decide +kernel
theorem dX10_unseen_58 : decode cX10_unseen 58 = .ok (.iload_n 1, 1) := by decide +kernel
theorem dX10_unseen_59 : decode cX10_unseen 59 = .ok (.ireturn, 1) := by decide +kernel
theorem dX10_keep_0 : decode cX10_keep 0 = .ok (.iload_n 1, 1) := by decide +kernel
theorem dX10_keep_1 : decode cX10_keep 1 = .ok (.iconst 0, 1) := by decide +kernel
theorem dX10_keep_2 : decode cX10_keep 2 = .ok (.iconst 1, 1) := by decide +kernel
theorem dX10_keep_3 : decode cX10_keep 3 = .ok (.invokestatic 86, 3) := by decide +kernel
theorem dX10_keep_6 : decode cX10_keep 6 = .ok (.ifCond .ne 5, 3) := by decide +kernel
theorem dX10_keep_9 : decode cX10_keep 9 = .ok (.iconst (-1), 1) := by decide +kernel
theorem dX10_keep_10 : decode cX10_keep 10 = .ok (.ireturn, 1) := by decide +kernel
theorem dX10_keep_11 : decode cX10_keep 11 = .ok (.aload_n 0, 1) := by decide +kernel
theorem dX10_keep_12 : decode cX10_keep 12 = .ok (.iload_n 1, 1) := by decide +kernel
theorem dX10_keep_13 : decode cX10_keep 13 = .ok (.invokevirtual 241, 3) := by decide +kernel
theorem dX10_keep_16 : decode cX10_keep 16 = .ok (.aload_n 0, 1) := by decide +kernel
theorem dX10_keep_17 : decode cX10_keep 17 = .ok (.getfield 53, 3) := by decide +kernel
theorem dX10_keep_20 : decode cX10_keep 20 = .ok (.invokevirtual 223, 3) := by decide +kernel
theorem dX10_keep_23 : decode cX10_keep 23 = .ok (.aload_n 0, 1) := by decide +kernel
theorem dX10_keep_24 : decode cX10_keep 24 = .ok (.dup, 1) := by decide +kernel
theorem dX10_keep_25 : decode cX10_keep 25 = .ok (.getfield 82, 3) := by decide +kernel
theorem dX10_keep_28 : decode cX10_keep 28 = .ok (.iconst 1, 1) := by decide +kernel
theorem dX10_keep_29 : decode cX10_keep 29 = .ok (.iload_n 1, 1) := by decide +kernel
theorem dX10_keep_30 : decode cX10_keep 30 = .ok (.ishl, 1) := by decide +kernel
theorem dX10_keep_31 : decode cX10_keep 31 = .ok (.ior, 1) := by decide +kernel
theorem dX10_keep_32 : decode cX10_keep 32 = .ok (.putfield 82, 3) := by decide +kernel
theorem dX10_keep_35 : decode cX10_keep 35 = .ok (.aload_n 0, 1) := by decide +kernel
theorem dX10_keep_36 : decode cX10_keep 36 = .ok (.getfield 53, 3) := by decide +kernel
theorem dX10_keep_39 : decode cX10_keep 39 = .ok (.getfield 144, 3) := by decide +kernel
theorem dX10_keep_42 : decode cX10_keep 42 = .ok (.ireturn, 1) := by decide +kernel
theorem dX10_back_0 : decode cX10_back 0 = .ok (.iload_n 1, 1) := by decide +kernel
theorem dX10_back_1 : decode cX10_back 1 = .ok (.iconst 0, 1) := by decide +kernel
theorem dX10_back_2 : decode cX10_back 2 = .ok (.iconst 1, 1) := by decide +kernel
theorem dX10_back_3 : decode cX10_back 3 = .ok (.invokestatic 86, 3) := by decide +kernel
theorem dX10_back_6 : decode cX10_back 6 = .ok (.ifCond .ne 5, 3) := by decide +kernel
theorem dX10_back_9 : decode cX10_back 9 = .ok (.iconst (-1), 1) := by decide +kernel
theorem dX10_back_10 : decode cX10_back 10 = .ok (.ireturn, 1) := by decide +kernel
theorem dX10_back_11 : decode cX10_back 11 = .ok (.aload_n 0, 1) := by decide +kernel
theorem dX10_back_12 : decode cX10_back 12 = .ok (.getfield 82, 3) := by decide +kernel
theorem dX10_back_15 : decode cX10_back 15 = .ok (.iload_n 1, 1) := by decide +kernel
theorem dX10_back_16 : decode cX10_back 16 = .ok (.ishr, 1) := by decide +kernel
theorem dX10_back_17 : decode cX10_back 17 = .ok (.iconst 1, 1) := by decide +kernel
theorem dX10_back_18 : decode cX10_back 18 = .ok (.iand, 1) := by decide +kernel
theorem dX10_back_19 : decode cX10_back 19 = .ok (.ifCond .ne 6, 3) := by decide +kernel
theorem dX10_back_22 : decode cX10_back 22 = .ok (.bipush (-2), 2) := by decide +kernel
theorem dX10_back_24 : decode cX10_back 24 = .ok (.ireturn, 1) := by decide +kernel
theorem dX10_back_25 : decode cX10_back 25 = .ok (.aload_n 0, 1) := by decide +kernel
theorem dX10_back_26 : decode cX10_back 26 = .ok (.getfield 53, 3) := by decide +kernel
theorem dX10_back_29 : decode cX10_back 29 = .ok (.aload_n 0, 1) := by decide +kernel
theorem dX10_back_30 : decode cX10_back 30 = .ok (.iload_n 1, 1) := by decide +kernel
theorem dX10_back_31 : decode cX10_back 31 = .ok (.invokevirtual 241, 3) := by decide +kernel
theorem dX10_back_34 : decode cX10_back 34 = .ok (.invokevirtual 223, 3) := by decide +kernel
theorem dX10_back_37 : decode cX10_back 37 = .ok (.aload_n 0, 1) := by decide +kernel
theorem dX10_back_38 : decode cX10_back 38 = .ok (.getfield 63, 3) := by decide +kernel
theorem dX10_back_41 : decode cX10_back 41 = .ok (.invokevirtual 117, 3) := by decide +kernel
theorem dX10_back_44 : decode cX10_back 44 = .ok (.aload_n 0, 1) := by decide +kernel
theorem dX10_back_45 : decode cX10_back 45 = .ok (.getfield 53, 3) := by decide +kernel
theorem dX10_back_48 : decode cX10_back 48 = .ok (.getfield 144, 3) := by decide +kernel
theorem dX10_back_51 : decode cX10_back 51 = .ok (.ireturn, 1) := by decide +kernel
theorem dX10_count_0 : decode cX10_count 0 = .ok (.iload_n 1, 1) := by decide +kernel
theorem dX10_count_1 : decode cX10_count 1 = .ok (.tableswitch 125 0 8 #[51, 59, 67, 75, 83, 92, 101, 109, 117], 51) := by decide +kernel
theorem dX10_count_52 : decode cX10_count 52 = .ok (.aload_n 0, 1) := by decide +kernel
theorem dX10_count_53 : decode cX10_count 53 = .ok (.getfield 28, 3) := by decide +kernel
theorem dX10_count_56 : decode cX10_count 56 = .ok (.getfield 245, 3) := by decide +kernel
theorem dX10_count_59 : decode cX10_count 59 = .ok (.ireturn, 1) := by decide +kernel
theorem dX10_count_60 : decode cX10_count 60 = .ok (.aload_n 0, 1) := by decide +kernel
theorem dX10_count_61 : decode cX10_count 61 = .ok (.getfield 28, 3) := by decide +kernel
theorem dX10_count_64 : decode cX10_count 64 = .ok (.getfield 220, 3) := by decide +kernel
theorem dX10_count_67 : decode cX10_count 67 = .ok (.ireturn, 1) := by decide +kernel
theorem dX10_count_68 : decode cX10_count 68 = .ok (.aload_n 0, 1) := by decide +kernel
theorem dX10_count_69 : decode cX10_count 69 = .ok (.getfield 53, 3) := by decide +kernel
theorem dX10_count_72 : decode cX10_count 72 = .ok (.getfield 144, 3) := by decide +kernel
theorem dX10_count_75 : decode cX10_count 75 = .ok (.ireturn, 1) := by decide +kernel
theorem dX10_count_76 : decode cX10_count 76 = .ok (.aload_n 0, 1) := by decide +kernel
theorem dX10_count_77 : decode cX10_count 77 = .ok (.getfield 53, 3) := by decide +kernel
theorem dX10_count_80 : decode cX10_count 80 = .ok (.getfield 177, 3) := by decide +kernel
theorem dX10_count_83 : decode cX10_count 83 = .ok (.ireturn, 1) := by decide +kernel
theorem dX10_count_84 : decode cX10_count 84 = .ok (.aload_n 0, 1) := by decide +kernel
theorem dX10_count_85 : decode cX10_count 85 = .ok (.getfield 53, 3) := by decide +kernel
theorem dX10_count_88 : decode cX10_count 88 = .ok (.iconst 0, 1) := by decide +kernel
theorem dX10_count_89 : decode cX10_count 89 = .ok (.invokevirtual 189, 3) := by decide +kernel
theorem dX10_count_92 : decode cX10_count 92 = .ok (.ireturn, 1) := by decide +kernel
theorem dX10_count_93 : decode cX10_count 93 = .ok (.aload_n 0, 1) := by decide +kernel
theorem dX10_count_94 : decode cX10_count 94 = .ok (.getfield 53, 3) := by decide +kernel
theorem dX10_count_97 : decode cX10_count 97 = .ok (.iconst 1, 1) := by decide +kernel
theorem dX10_count_98 : decode cX10_count 98 = .ok (.invokevirtual 189, 3) := by decide +kernel
theorem dX10_count_101 : decode cX10_count 101 = .ok (.ireturn, 1) := by decide +kernel
theorem dX10_count_102 : decode cX10_count 102 = .ok (.aload_n 0, 1) := by decide +kernel
theorem dX10_count_103 : decode cX10_count 103 = .ok (.getfield 78, 3) := by decide +kernel
theorem dX10_count_106 : decode cX10_count 106 = .ok (.getfield 228, 3) := by decide +kernel
theorem dX10_count_109 : decode cX10_count 109 = .ok (.ireturn, 1) := by decide +kernel
theorem dX10_count_110 : decode cX10_count 110 = .ok (.aload_n 0, 1) := by decide +kernel
theorem dX10_count_111 : decode cX10_count 111 = .ok (.getfield 12, 3) := by decide +kernel
theorem dX10_count_114 : decode cX10_count 114 = .ok (.getfield 98, 3) := by decide +kernel
theorem dX10_count_117 : decode cX10_count 117 = .ok (.ireturn, 1) := by decide +kernel
theorem dX10_count_118 : decode cX10_count 118 = .ok (.aload_n 0, 1) := by decide +kernel
theorem dX10_count_119 : decode cX10_count 119 = .ok (.getfield 63, 3) := by decide +kernel
theorem dX10_count_122 : decode cX10_count 122 = .ok (.getfield 195, 3) := by decide +kernel
theorem dX10_count_125 : decode cX10_count 125 = .ok (.ireturn, 1) := by decide +kernel
theorem dX10_count_126 : decode cX10_count 126 = .ok (.iconst (-1), 1) := by decide +kernel
theorem dX10_count_127 : decode cX10_count 127 = .ok (.ireturn, 1) := by decide +kernel
theorem dX10_isWithin_0 : decode cX10_isWithin 0 = .ok (.iload_n 0, 1) := by decide +kernel
theorem dX10_isWithin_1 : decode cX10_isWithin 1 = .ok (.iload_n 1, 1) := by decide +kernel
theorem dX10_isWithin_2 : decode cX10_isWithin 2 = .ok (.if_icmp .lt 12, 3) := by decide +kernel
theorem dX10_isWithin_5 : decode cX10_isWithin 5 = .ok (.iload_n 0, 1) := by decide +kernel
theorem dX10_isWithin_6 : decode cX10_isWithin 6 = .ok (.iload_n 2, 1) := by decide +kernel
theorem dX10_isWithin_7 : decode cX10_isWithin 7 = .ok (.if_icmp .gt 7, 3) := by decide +kernel
theorem dX10_isWithin_10 : decode cX10_isWithin 10 = .ok (.iconst 1, 1) := by decide +kernel
theorem dX10_isWithin_11 : decode cX10_isWithin 11 = .ok (.goto 4, 3) := by decide +kernel
theorem dX10_isWithin_14 : decode cX10_isWithin 14 = .ok (.iconst 0, 1) := by decide +kernel
theorem dX10_isWithin_15 : decode cX10_isWithin 15 = .ok (.ireturn, 1) := by decide +kernel
theorem dX10_isSendable_0 : decode cX10_isSendable 0 = .ok (.aload_n 0, 1) := by decide +kernel
theorem dX10_isSendable_1 : decode cX10_isSendable 1 = .ok (.getfield 28, 3) := by decide +kernel
theorem dX10_isSendable_4 : decode cX10_isSendable 4 = .ok (.iload_n 1, 1) := by decide +kernel
theorem dX10_isSendable_5 : decode cX10_isSendable 5 = .ok (.invokevirtual 225, 3) := by decide +kernel
theorem dX10_isSendable_8 : decode cX10_isSendable 8 = .ok (.ifCond .eq 38, 3) := by decide +kernel
theorem dX10_isSendable_11 : decode cX10_isSendable 11 = .ok (.aload_n 0, 1) := by decide +kernel
theorem dX10_isSendable_12 : decode cX10_isSendable 12 = .ok (.getfield 28, 3) := by decide +kernel
theorem dX10_isSendable_15 : decode cX10_isSendable 15 = .ok (.iload_n 2, 1) := by decide +kernel
theorem dX10_isSendable_16 : decode cX10_isSendable 16 = .ok (.invokevirtual 225, 3) := by decide +kernel
theorem dX10_isSendable_19 : decode cX10_isSendable 19 = .ok (.ifCond .eq 27, 3) := by decide +kernel
theorem dX10_isSendable_22 : decode cX10_isSendable 22 = .ok (.iload_n 3, 1) := by decide +kernel
theorem dX10_isSendable_23 : decode cX10_isSendable 23 = .ok (.iconst 1, 1) := by decide +kernel
theorem dX10_isSendable_24 : decode cX10_isSendable 24 = .ok (.bipush 20, 2) := by decide +kernel
theorem dX10_isSendable_26 : decode cX10_isSendable 26 = .ok (.invokestatic 86, 3) := by decide +kernel
theorem dX10_isSendable_29 : decode cX10_isSendable 29 = .ok (.ifCond .eq 17, 3) := by decide +kernel
theorem dX10_isSendable_32 : decode cX10_isSendable 32 = .ok (.iload 4, 2) := by decide +kernel
theorem dX10_isSendable_34 : decode cX10_isSendable 34 = .ok (.iconst 0, 1) := by decide +kernel
theorem dX10_isSendable_35 : decode cX10_isSendable 35 = .ok (.iconst 2, 1) := by decide +kernel
theorem dX10_isSendable_36 : decode cX10_isSendable 36 = .ok (.invokestatic 86, 3) := by decide +kernel
theorem dX10_isSendable_39 : decode cX10_isSendable 39 = .ok (.ifCond .eq 7, 3) := by decide +kernel
theorem dX10_isSendable_42 : decode cX10_isSendable 42 = .ok (.iconst 1, 1) := by decide +kernel
theorem dX10_isSendable_43 : decode cX10_isSendable 43 = .ok (.goto 4, 3) := by decide +kernel
theorem dX10_isSendable_46 : decode cX10_isSendable 46 = .ok (.iconst 0, 1) := by decide +kernel
theorem dX10_isSendable_47 : decode cX10_isSendable 47 = .ok (.ireturn, 1) := by decide +kernel
theorem dX10_predict_0 : decode cX10_predict 0 = .ok (.iload_n 1, 1) := by decide +kernel
theorem dX10_predict_1 : decode cX10_predict 1 = .ok (.iload_n 2, 1) := by decide +kernel
theorem dX10_predict_2 : decode cX10_predict 2 = .ok (.if_icmp .ne 11, 3) := by decide +kernel
theorem dX10_predict_5 : decode cX10_predict 5 = .ok (.aload_n 0, 1) := by decide +kernel
theorem dX10_predict_6 : decode cX10_predict 6 = .ok (.getfield 53, 3) := by decide +kernel
theorem dX10_predict_9 : decode cX10_predict 9 = .ok (.getfield 177, 3) := by decide +kernel
theorem dX10_predict_12 : decode cX10_predict 12 = .ok (.ireturn, 1) := by decide +kernel
theorem dX10_predict_13 : decode cX10_predict 13 = .ok (.aload_n 0, 1) := by decide +kernel
theorem dX10_predict_14 : decode cX10_predict 14 = .ok (.getfield 37, 3) := by decide +kernel
theorem dX10_predict_17 : decode cX10_predict 17 = .ok (.iload_n 1, 1) := by decide +kernel
theorem dX10_predict_18 : decode cX10_predict 18 = .ok (.aload_n 0, 1) := by decide +kernel
theorem dX10_predict_19 : decode cX10_predict 19 = .ok (.getfield 53, 3) := by decide +kernel
theorem dX10_predict_22 : decode cX10_predict 22 = .ok (.getfield 177, 3) := by decide +kernel
theorem dX10_predict_25 : decode cX10_predict 25 = .ok (.iload_n 2, 1) := by decide +kernel
theorem dX10_predict_26 : decode cX10_predict 26 = .ok (.iload_n 3, 1) := by decide +kernel
theorem dX10_predict_27 : decode cX10_predict 27 = .ok (.iload 4, 2) := by decide +kernel
theorem dX10_predict_29 : decode cX10_predict 29 = .ok (.invokevirtual 248, 3) := by decide +kernel
theorem dX10_predict_32 : decode cX10_predict 32 = .ok (.ireturn, 1) := by decide +kernel
theorem dX10_explainsAll_0 : decode cX10_explainsAll 0 = .ok (.iconst 0, 1) := by decide +kernel
theorem dX10_explainsAll_1 : decode cX10_explainsAll 1 = .ok (.istore_n 2, 1) := by decide +kernel
theorem dX10_explainsAll_2 : decode cX10_explainsAll 2 = .ok (.iload_n 2, 1) := by decide +kernel
theorem dX10_explainsAll_3 : decode cX10_explainsAll 3 = .ok (.aload_n 0, 1) := by decide +kernel
theorem dX10_explainsAll_4 : decode cX10_explainsAll 4 = .ok (.getfield 78, 3) := by decide +kernel
theorem dX10_explainsAll_7 : decode cX10_explainsAll 7 = .ok (.getfield 228, 3) := by decide +kernel
theorem dX10_explainsAll_10 : decode cX10_explainsAll 10 = .ok (.if_icmp .ge 68, 3) := by decide +kernel
theorem dX10_explainsAll_13 : decode cX10_explainsAll 13 = .ok (.aload_n 0, 1) := by decide +kernel
theorem dX10_explainsAll_14 : decode cX10_explainsAll 14 = .ok (.getfield 78, 3) := by decide +kernel
theorem dX10_explainsAll_17 : decode cX10_explainsAll 17 = .ok (.iload_n 2, 1) := by decide +kernel
theorem dX10_explainsAll_18 : decode cX10_explainsAll 18 = .ok (.iconst 2, 1) := by decide +kernel
theorem dX10_explainsAll_19 : decode cX10_explainsAll 19 = .ok (.invokevirtual 207, 3) := by decide +kernel
theorem dX10_explainsAll_22 : decode cX10_explainsAll 22 = .ok (.istore_n 3, 1) := by decide +kernel
theorem dX10_explainsAll_23 : decode cX10_explainsAll 23 = .ok (.iload_n 3, 1) := by decide +kernel
theorem dX10_explainsAll_24 : decode cX10_explainsAll 24 = .ok (.bipush 121, 2) := by decide +kernel
theorem dX10_explainsAll_26 : decode cX10_explainsAll 26 = .ok (.if_icmp .ne 8, 3) := by decide +kernel
theorem dX10_explainsAll_29 : decode cX10_explainsAll 29 = .ok (.bipush (-9), 2) := by decide +kernel
theorem dX10_explainsAll_31 : decode cX10_explainsAll 31 = .ok (.goto 4, 3) := by decide +kernel
theorem dX10_explainsAll_34 : decode cX10_explainsAll 34 = .ok (.iload_n 3, 1) := by decide +kernel
theorem dX10_explainsAll_35 : decode cX10_explainsAll 35 = .ok (.istore 4, 2) := by decide +kernel
theorem dX10_explainsAll_37 : decode cX10_explainsAll 37 = .ok (.aload_n 0, 1) := by decide +kernel
theorem dX10_explainsAll_38 : decode cX10_explainsAll 38 = .ok (.getfield 78, 3) := by decide +kernel
theorem dX10_explainsAll_41 : decode cX10_explainsAll 41 = .ok (.iload_n 2, 1) := by decide +kernel
theorem dX10_explainsAll_42 : decode cX10_explainsAll 42 = .ok (.iconst 0, 1) := by decide +kernel
theorem dX10_explainsAll_43 : decode cX10_explainsAll 43 = .ok (.invokevirtual 207, 3) := by decide +kernel
theorem dX10_explainsAll_46 : decode cX10_explainsAll 46 = .ok (.istore 5, 2) := by decide +kernel
theorem dX10_explainsAll_48 : decode cX10_explainsAll 48 = .ok (.aload_n 0, 1) := by decide +kernel
theorem dX10_explainsAll_49 : decode cX10_explainsAll 49 = .ok (.iload 5, 2) := by decide +kernel
theorem dX10_explainsAll_51 : decode cX10_explainsAll 51 = .ok (.aload_n 0, 1) := by decide +kernel
theorem dX10_explainsAll_52 : decode cX10_explainsAll 52 = .ok (.getfield 78, 3) := by decide +kernel
theorem dX10_explainsAll_55 : decode cX10_explainsAll 55 = .ok (.iload_n 2, 1) := by decide +kernel
theorem dX10_explainsAll_56 : decode cX10_explainsAll 56 = .ok (.iconst 1, 1) := by decide +kernel
theorem dX10_explainsAll_57 : decode cX10_explainsAll 57 = .ok (.invokevirtual 207, 3) := by decide +kernel
theorem dX10_explainsAll_60 : decode cX10_explainsAll 60 = .ok (.iconst 1, 1) := by decide +kernel
theorem dX10_explainsAll_61 : decode cX10_explainsAll 61 = .ok (.iload_n 1, 1) := by decide +kernel
theorem dX10_explainsAll_62 : decode cX10_explainsAll 62 = .ok (.invokevirtual 216, 3) := by decide +kernel
theorem dX10_explainsAll_65 : decode cX10_explainsAll 65 = .ok (.iload 4, 2) := by decide +kernel
theorem dX10_explainsAll_67 : decode cX10_explainsAll 67 = .ok (.if_icmp .eq 5, 3) := by decide +kernel
theorem dX10_explainsAll_70 : decode cX10_explainsAll 70 = .ok (.iconst 0, 1) := by decide +kernel
theorem dX10_explainsAll_71 : decode cX10_explainsAll 71 = .ok (.ireturn, 1) := by decide +kernel
theorem dX10_explainsAll_72 : decode cX10_explainsAll 72 = .ok (.iinc 2 1, 3) := by decide +kernel
theorem dX10_explainsAll_75 : decode cX10_explainsAll 75 = .ok (.goto (-73), 3) := by decide +kernel
theorem dX10_explainsAll_78 : decode cX10_explainsAll 78 = .ok (.iconst 1, 1) := by decide +kernel
theorem dX10_explainsAll_79 : decode cX10_explainsAll 79 = .ok (.ireturn, 1) := by decide +kernel
theorem dX10_imageAt_0 : decode cX10_imageAt 0 = .ok (.iload_n 1, 1) := by decide +kernel
theorem dX10_imageAt_1 : decode cX10_imageAt 1 = .ok (.ifCond .ne 10, 3) := by decide +kernel
theorem dX10_imageAt_4 : decode cX10_imageAt 4 = .ok (.aload_n 0, 1) := by decide +kernel
theorem dX10_imageAt_5 : decode cX10_imageAt 5 = .ok (.getfield 67, 3) := by decide +kernel
theorem dX10_imageAt_8 : decode cX10_imageAt 8 = .ok (.goto 7, 3) := by decide +kernel
theorem dX10_imageAt_11 : decode cX10_imageAt 11 = .ok (.aload_n 0, 1) := by decide +kernel
theorem dX10_imageAt_12 : decode cX10_imageAt 12 = .ok (.getfield 70, 3) := by decide +kernel
theorem dX10_imageAt_15 : decode cX10_imageAt 15 = .ok (.areturn, 1) := by decide +kernel
abbrev B_X6_lookAt_7 (G : GT) (Q : Nat → Mem → Prop) (n : Nat) (μ : Mem) (v1 : Int) (v2 : Int) (v3 : Int) : Prop := Wa G Y_X6_lookAt (ZV G Y_X6_lookAt Q) 0 0 n μ 7 [(0, .inr 10), (1, .inr v1), (2, .inl v2), (3, .inl v3)] []
abbrev B_X6_lookAt_25 (G : GT) (Q : Nat → Mem → Prop) (n : Nat) (μ : Mem) (v1 : Int) (v2 : Int) (v3 : Int) (v4 : Int) (v5 : Int) : Prop := Wa G Y_X6_lookAt (ZV G Y_X6_lookAt Q) 0 0 n μ 25 [(0, .inr 10), (1, .inr v1), (2, .inl v2), (3, .inl v3), (4, .inr v4), (5, .inl v5)] []
abbrev B_X6_lookAt_61 (G : GT) (Q : Nat → Mem → Prop) (n : Nat) (μ : Mem) (v1 : Int) (v2 : Int) (v3 : Int) (v4 : Int) (v5 : Int) (u0 : Int) : Prop := Wa G Y_X6_lookAt (ZV G Y_X6_lookAt Q) 0 0 n μ 61 [(0, .inr 10), (1, .inr v1), (2, .inl v2), (3, .inl v3), (4, .inr v4), (5, .inl v5)] [.inl u0]
abbrev B_X6_lookAt_77 (G : GT) (Q : Nat → Mem → Prop) (n : Nat) (μ : Mem) (v1 : Int) (v2 : Int) (v3 : Int) (v4 : Int) (v5 : Int) : Prop := Wa G Y_X6_lookAt (ZV G Y_X6_lookAt Q) 0 0 n μ 77 [(0, .inr 10), (1, .inr v1), (2, .inl v2), (3, .inl v3), (4, .inr v4), (5, .inl v5)] []
theorem m_X6_lookAt {G : GT} (hg : gx G = FX) {n : Nat} {μ : Mem} {Q : Nat → Mem → Prop} {v1 v2 : Int} (o1 : St v1 7 5) (h : (CV G Y_X6_openWindows [.inr 10, .inr v1] n μ (fun (n2 : Nat) (μ3 : Mem) => (B_X6_lookAt_7 G Q n2 μ3 v1 v2 0)))) : CV G Y_X6_lookAt [.inr 10, .inr v1, .inl v2] n μ Q := by
  refine e_V (by decide) (Nat.le_of_ble_eq_true rfl) ?_
  show Wa G Y_X6_lookAt (ZV G Y_X6_lookAt Q) 0 0 n μ 0 [(0, .inr 10), (1, .inr v1), (2, .inl v2)] []
  refine a_aload_n (k := 0) dX6_lookAt_0 rfl rfl ?_
  refine a_aload_n (k := 1) dX6_lookAt_1 rfl rfl ?_
  refine k_X6_34 rfl dX6_lookAt_2 (Nat.le_of_ble_eq_true rfl) rfl (Nat.le_of_ble_eq_true rfl) (Nat.le_of_ble_eq_true rfl) (St_ho hg St_10) h (fun n2 μ3 h => ?_)
  refine a_iconst dX6_lookAt_5 (by decide) ?_
  refine b_istore_n (L' := [(0, .inr 10), (1, .inr v1), (2, .inl v2), (3, .inl 0)]) [1, 2, 3, 0] dX6_lookAt_6 rfl (Nat.le_of_ble_eq_true rfl) rfl ?_
  exact h
theorem b_X6_lookAt_7 {G : GT} (hg : gx G = FX) {n : Nat} {μ : Mem} {Q : Nat → Mem → Prop} {v1 v2 v3 : Int} (o1 : St v1 7 5) (h : (((μ v1 2) ≤ v3 → (CV G Y_X6_countRuns [.inr 10] n μ (fun (n3 : Nat) (μ4 : Mem) => (Q n3 μ4)))) ∧ (¬ ((μ v1 2) ≤ v3) → (CR G Y_X7_bundleAt [.inr v1, .inl v3] n μ (fun (x5 : Int) (n6 : Nat) (μ7 : Mem) => (St x5 0 9) ∧ (B_X6_lookAt_25 G Q n6 μ7 v1 v2 v3 x5 0)))))) : B_X6_lookAt_7 G Q n μ v1 v2 v3 := by
  show Wa G Y_X6_lookAt (ZV G Y_X6_lookAt Q) 0 0 n μ 7 [(0, .inr 10), (1, .inr v1), (2, .inl v2), (3, .inl v3)] []
  refine a_iload_n (k := 3) dX6_lookAt_7 rfl rfl ?_
  refine a_aload_n (k := 1) dX6_lookAt_8 rfl rfl ?_
  refine g_X6_38 rfl dX6_lookAt_9 (St_ho hg o1) ?_
  refine a_icmp_ge (tgt := 100) dX6_lookAt_12 (by decide) (fun c1 => ?_) (fun c1 => ?_)
  · replace h := h.1 c1
    refine a_aload_n (k := 0) dX6_lookAt_100 rfl rfl ?_
    refine k_X6_69 rfl dX6_lookAt_101 (Nat.le_of_ble_eq_true rfl) rfl (Nat.le_of_ble_eq_true rfl) (Nat.le_of_ble_eq_true rfl) (St_ho hg St_10) h (fun n3 μ4 h => ?_)
    exact a_ret dX6_lookAt_104 rfl (Nat.le_of_ble_eq_true rfl) (Nat.le_of_ble_eq_true rfl) h
  · replace h := h.2 c1
    refine a_aload_n (k := 1) dX6_lookAt_15 rfl rfl ?_
    refine a_iload_n (k := 3) dX6_lookAt_16 rfl rfl ?_
    refine k_X6_43 rfl dX6_lookAt_17 (Nat.le_of_ble_eq_true rfl) rfl (Nat.le_of_ble_eq_true rfl) (Nat.le_of_ble_eq_true rfl) (St_ho hg o1) h (fun x5 n6 μ7 _ h => ?_)
    obtain ⟨q8, h⟩ := h
    refine b_astore (L' := [(0, .inr 10), (1, .inr v1), (2, .inl v2), (3, .inl v3), (4, .inr x5)]) [1, 2, 3, 4, 0] dX6_lookAt_20 (Nat.le_of_ble_eq_true rfl) rfl ?_
    refine a_iconst dX6_lookAt_22 (by decide) ?_
    refine b_istore (L' := [(0, .inr 10), (1, .inr v1), (2, .inl v2), (3, .inl v3), (4, .inr x5), (5, .inl 0)]) [1, 2, 3, 4, 5, 0] dX6_lookAt_23 (Nat.le_of_ble_eq_true rfl) rfl ?_
    exact h
theorem b_X6_lookAt_25 {G : GT} (hg : gx G = FX) {n : Nat} {μ : Mem} {Q : Nat → Mem → Prop} {v1 v2 v3 v4 v5 : Int} (o1 : St v1 7 5) (o4 : St v4 0 9) (h : (((μ (v4 + 1) 2) ≤ v5 → ((inR (v3 + 1)) ∧ (B_X6_lookAt_7 G Q n μ v1 v2 (v3 + 1)))) ∧ (¬ ((μ (v4 + 1) 2) ≤ v5) → (CI G Y_X8_at [.inr (v4 + 1), .inl v5, .inl 1] n μ (fun (x3 : Int) (n4 : Nat) (μ5 : Mem) => (((μ5 v1 3) ≤ x3 → (B_X6_lookAt_61 G Q n4 μ5 v1 v2 v3 v4 v5 0)) ∧ (¬ ((μ5 v1 3) ≤ x3) → (B_X6_lookAt_61 G Q n4 μ5 v1 v2 v3 v4 v5 1)))))))) : B_X6_lookAt_25 G Q n μ v1 v2 v3 v4 v5 := by
  show Wa G Y_X6_lookAt (ZV G Y_X6_lookAt Q) 0 0 n μ 25 [(0, .inr 10), (1, .inr v1), (2, .inl v2), (3, .inl v3), (4, .inr v4), (5, .inl v5)] []
  refine a_iload (k := 5) dX6_lookAt_25 rfl ?_
  refine a_aload (k := 4) dX6_lookAt_27 rfl ?_
  refine gs_X6_47 rfl dX6_lookAt_29 hg o4 ?_
  refine g_X6_52 rfl dX6_lookAt_32 (St_ho hg (st_0_1 o4)) ?_
  refine a_icmp_ge (tgt := 94) dX6_lookAt_35 (by decide) (fun c1 => ?_) (fun c1 => ?_)
  · replace h := h.1 c1
    obtain ⟨q2, h⟩ := h
    refine b_iinc (L' := [(0, .inr 10), (1, .inr v1), (2, .inl v2), (3, .inl (v3 + 1)), (4, .inr v4), (5, .inl v5)]) (k := 3) [1, 2, 3, 0, 4, 5] dX6_lookAt_94 rfl q2 (Nat.le_of_ble_eq_true rfl) rfl ?_
    refine a_goto (tgt := 7) dX6_lookAt_97 (by decide) ?_
    refine a_sub [0, 1, 2, 3] rfl ?_
    exact h
  · replace h := h.2 c1
    refine a_aload (k := 4) dX6_lookAt_38 rfl ?_
    refine gs_X6_47 rfl dX6_lookAt_40 hg o4 ?_
    refine a_iload (k := 5) dX6_lookAt_43 rfl ?_
    refine a_iconst dX6_lookAt_45 (by decide) ?_
    refine k_X6_55 rfl dX6_lookAt_46 (Nat.le_of_ble_eq_true rfl) rfl (Nat.le_of_ble_eq_true rfl) (Nat.le_of_ble_eq_true rfl) (St_ho hg (st_0_1 o4)) h (fun x3 n4 μ5 h => ?_)
    refine a_aload_n (k := 1) dX6_lookAt_49 rfl rfl ?_
    refine g_X6_59 rfl dX6_lookAt_50 (St_ho hg o1) ?_
    refine a_icmp_ge (tgt := 60) dX6_lookAt_53 (by decide) (fun c6 => ?_) (fun c6 => ?_)
    · replace h := h.1 c6
      refine a_iconst dX6_lookAt_60 (by decide) ?_
      exact h
    · replace h := h.2 c6
      refine a_iconst dX6_lookAt_56 (by decide) ?_
      refine a_goto (tgt := 61) dX6_lookAt_57 (by decide) ?_
      exact h
theorem b_X6_lookAt_61 {G : GT} (hg : gx G = FX) {n : Nat} {μ : Mem} {Q : Nat → Mem → Prop} {v1 v2 v3 v4 v5 u0 : Int} (o1 : St v1 7 5) (o4 : St v4 0 9) (h : ((¬ (u0 = 0) → (B_X6_lookAt_77 G Q n μ v1 v2 v3 v4 v5)) ∧ (u0 = 0 → (((μ v4 6) < v2 → ((inR (v5 + 1)) ∧ (B_X6_lookAt_25 G Q n μ v1 v2 v3 v4 (v5 + 1)))) ∧ (¬ ((μ v4 6) < v2) → (B_X6_lookAt_77 G Q n μ v1 v2 v3 v4 v5)))))) : B_X6_lookAt_61 G Q n μ v1 v2 v3 v4 v5 u0 := by
  show Wa G Y_X6_lookAt (ZV G Y_X6_lookAt Q) 0 0 n μ 61 [(0, .inr 10), (1, .inr v1), (2, .inl v2), (3, .inl v3), (4, .inr v4), (5, .inl v5)] [.inl u0]
  refine b_istore (L' := [(0, .inr 10), (1, .inr v1), (2, .inl v2), (3, .inl v3), (4, .inr v4), (5, .inl v5), (6, .inl u0)]) [1, 2, 3, 4, 5, 6, 0] dX6_lookAt_61 (Nat.le_of_ble_eq_true rfl) rfl ?_
  refine a_iload (k := 6) dX6_lookAt_63 rfl ?_
  refine a_if_ne (tgt := 77) dX6_lookAt_65 (by decide) (fun c1 => ?_) (fun c1 => ?_)
  · replace h := h.1 c1
    refine a_sub [0, 1, 2, 3, 4, 5] rfl ?_
    exact h
  · replace h := h.2 c1
    refine a_aload (k := 4) dX6_lookAt_68 rfl ?_
    refine g_X6_62 rfl dX6_lookAt_70 (St_ho hg o4) ?_
    refine a_iload_n (k := 2) dX6_lookAt_73 rfl rfl ?_
    refine a_icmp_lt (tgt := 88) dX6_lookAt_74 (by decide) (fun c2 => ?_) (fun c2 => ?_)
    · replace h := h.1 c2
      obtain ⟨q3, h⟩ := h
      refine b_iinc (L' := [(0, .inr 10), (1, .inr v1), (2, .inl v2), (3, .inl v3), (4, .inr v4), (5, .inl (v5 + 1)), (6, .inl u0)]) (k := 5) [1, 2, 3, 4, 5, 0, 6] dX6_lookAt_88 rfl q3 (Nat.le_of_ble_eq_true rfl) rfl ?_
      refine a_goto (tgt := 25) dX6_lookAt_91 (by decide) ?_
      refine a_sub [0, 1, 2, 3, 4, 5] rfl ?_
      exact h
    · replace h := h.2 c2
      refine a_sub [0, 1, 2, 3, 4, 5] rfl ?_
      exact h
theorem b_X6_lookAt_77 {G : GT} (hg : gx G = FX) {n : Nat} {μ : Mem} {Q : Nat → Mem → Prop} {v1 v2 v3 v4 v5 : Int} (o1 : St v1 7 5) (o4 : St v4 0 9) (h : (CV G Y_X6_closeTicks [.inr 10, .inr (v4 + 1), .inl v5] n μ (fun (n2 : Nat) (μ3 : Mem) => ((inR (v5 + 1)) ∧ (B_X6_lookAt_25 G Q n2 μ3 v1 v2 v3 v4 (v5 + 1)))))) : B_X6_lookAt_77 G Q n μ v1 v2 v3 v4 v5 := by
  show Wa G Y_X6_lookAt (ZV G Y_X6_lookAt Q) 0 0 n μ 77 [(0, .inr 10), (1, .inr v1), (2, .inl v2), (3, .inl v3), (4, .inr v4), (5, .inl v5)] []
  refine a_aload_n (k := 0) dX6_lookAt_77 rfl rfl ?_
  refine a_aload (k := 4) dX6_lookAt_78 rfl ?_
  refine gs_X6_47 rfl dX6_lookAt_80 hg o4 ?_
  refine a_iload (k := 5) dX6_lookAt_83 rfl ?_
  refine k_X6_65 rfl dX6_lookAt_85 (Nat.le_of_ble_eq_true rfl) rfl (Nat.le_of_ble_eq_true rfl) (Nat.le_of_ble_eq_true rfl) (St_ho hg St_10) h (fun n2 μ3 h => ?_)
  obtain ⟨q4, h⟩ := h
  refine b_iinc (L' := [(0, .inr 10), (1, .inr v1), (2, .inl v2), (3, .inl v3), (4, .inr v4), (5, .inl (v5 + 1))]) (k := 5) [1, 2, 3, 4, 5, 0] dX6_lookAt_88 rfl q4 (Nat.le_of_ble_eq_true rfl) rfl ?_
  refine a_goto (tgt := 25) dX6_lookAt_91 (by decide) ?_
  exact h
abbrev B_X6_openWindows_10 (G : GT) (Q : Nat → Mem → Prop) (n : Nat) (μ : Mem) (v1 : Int) (v2 : Int) : Prop := Wa G Y_X6_openWindows (ZV G Y_X6_openWindows Q) 0 0 n μ 10 [(0, .inr 10), (1, .inr v1), (2, .inl v2)] []
abbrev B_X6_openWindows_59 (G : GT) (Q : Nat → Mem → Prop) (n : Nat) (μ : Mem) (v1 : Int) (v2 : Int) (v4 : Int) (u0 : Int) : Prop := Wa G Y_X6_openWindows (ZV G Y_X6_openWindows Q) 0 0 n μ 59 [(0, .inr 10), (1, .inr v1), (2, .inl v2), (4, .inl v4)] [.inl u0]
abbrev B_X6_openWindows_73 (G : GT) (Q : Nat → Mem → Prop) (n : Nat) (μ : Mem) (v1 : Int) (v2 : Int) (v4 : Int) (v5 : Int) (v6 : Int) (v7 : Int) : Prop := Wa G Y_X6_openWindows (ZV G Y_X6_openWindows Q) 0 0 n μ 73 [(0, .inr 10), (1, .inr v1), (2, .inl v2), (4, .inl v4), (5, .inl v5), (6, .inl v6), (7, .inl v7)] []
abbrev B_X6_openWindows_106 (G : GT) (Q : Nat → Mem → Prop) (n : Nat) (μ : Mem) (v1 : Int) (v2 : Int) (v4 : Int) (v5 : Int) (v6 : Int) (v7 : Int) (u0 : Int) (u1 : Int) (u2 : Int) : Prop := Wa G Y_X6_openWindows (ZV G Y_X6_openWindows Q) 0 0 n μ 106 [(0, .inr 10), (1, .inr v1), (2, .inl v2), (4, .inl v4), (5, .inl v5), (6, .inl v6), (7, .inl v7)] [.inl u0, .inl u1, .inr u2]
abbrev B_X6_openWindows_107 (G : GT) (Q : Nat → Mem → Prop) (n : Nat) (μ : Mem) (v1 : Int) (v2 : Int) (v4 : Int) (v5 : Int) (v6 : Int) (v7 : Int) (u0 : Int) (u1 : Int) (u2 : Int) (u3 : Int) : Prop := Wa G Y_X6_openWindows (ZV G Y_X6_openWindows Q) 0 0 n μ 107 [(0, .inr 10), (1, .inr v1), (2, .inl v2), (4, .inl v4), (5, .inl v5), (6, .inl v6), (7, .inl v7)] [.inl u0, .inl u1, .inl u2, .inr u3]
theorem m_X6_openWindows {G : GT} (hg : gx G = FX) {n : Nat} {μ : Mem} {Q : Nat → Mem → Prop} {v1 : Int} (o1 : St v1 7 5) (h : (CV G Y_X8_cut [.inr 11, .inl 0] n μ (fun (n2 : Nat) (μ3 : Mem) => (B_X6_openWindows_10 G Q n2 μ3 v1 0)))) : CV G Y_X6_openWindows [.inr 10, .inr v1] n μ Q := by
  refine e_V (by decide) (Nat.le_of_ble_eq_true rfl) ?_
  show Wa G Y_X6_openWindows (ZV G Y_X6_openWindows Q) 0 0 n μ 0 [(0, .inr 10), (1, .inr v1)] []
  refine a_aload_n (k := 0) dX6_openWindows_0 rfl rfl ?_
  refine gs_X6_20 rfl dX6_openWindows_1 hg St_10 ?_
  refine a_iconst dX6_openWindows_4 (by decide) ?_
  refine k_X6_72 rfl dX6_openWindows_5 (Nat.le_of_ble_eq_true rfl) rfl (Nat.le_of_ble_eq_true rfl) (Nat.le_of_ble_eq_true rfl) (St_ho hg St_11) h (fun n2 μ3 h => ?_)
  refine a_iconst dX6_openWindows_8 (by decide) ?_
  refine b_istore_n (L' := [(0, .inr 10), (1, .inr v1), (2, .inl 0)]) [1, 2, 0] dX6_openWindows_9 rfl (Nat.le_of_ble_eq_true rfl) rfl ?_
  exact h
theorem b_X6_openWindows_10 {G : GT} (hg : gx G = FX) {n : Nat} {μ : Mem} {Q : Nat → Mem → Prop} {v1 v2 : Int} (o1 : St v1 7 5) (h : (((μ 7 2) ≤ v2 → (Q n μ)) ∧ (¬ ((μ 7 2) ≤ v2) → (CR G Y_X3_contactAt [.inr 7, .inl v2] n μ (fun (x2 : Int) (n3 : Nat) (μ4 : Mem) => ((Co n3 x2) ∧ (CI G Y_X7_isMissed [.inr v1, .inl v2] n3 μ4 (fun (x6 : Int) (n7 : Nat) (μ8 : Mem) => ((x6 = 0 → ((Co n7 x2) ∧ (B_X6_openWindows_59 G Q n7 μ8 v1 v2 (if μ4 x2 2 < μ4 v1 3 then μ4 v1 3 else μ4 x2 2) (μ8 x2 3)))) ∧ (¬ (x6 = 0) → (B_X6_openWindows_59 G Q n7 μ8 v1 v2 (if μ4 x2 2 < μ4 v1 3 then μ4 v1 3 else μ4 x2 2) 0))))))))))) : B_X6_openWindows_10 G Q n μ v1 v2 := by
  show Wa G Y_X6_openWindows (ZV G Y_X6_openWindows Q) 0 0 n μ 10 [(0, .inr 10), (1, .inr v1), (2, .inl v2)] []
  refine a_iload_n (k := 2) dX6_openWindows_10 rfl rfl ?_
  refine a_aload_n (k := 0) dX6_openWindows_11 rfl rfl ?_
  refine gs_X6_9 rfl dX6_openWindows_12 hg St_10 ?_
  refine g_X6_76 rfl dX6_openWindows_15 (St_ho hg St_7) ?_
  refine a_icmp_ge (tgt := 122) dX6_openWindows_18 (by decide) (fun c1 => ?_) (fun c1 => ?_)
  · replace h := h.1 c1
    exact a_ret dX6_openWindows_122 rfl (Nat.le_of_ble_eq_true rfl) (Nat.le_of_ble_eq_true rfl) h
  · replace h := h.2 c1
    refine a_aload_n (k := 0) dX6_openWindows_21 rfl rfl ?_
    refine gs_X6_9 rfl dX6_openWindows_22 hg St_10 ?_
    refine a_iload_n (k := 2) dX6_openWindows_25 rfl rfl ?_
    refine k_X6_81 rfl dX6_openWindows_26 (Nat.le_of_ble_eq_true rfl) rfl (Nat.le_of_ble_eq_true rfl) (Nat.le_of_ble_eq_true rfl) (St_ho hg St_7) h (fun x2 n3 μ4 _ h => ?_)
    refine b_astore_n (L' := [(0, .inr 10), (1, .inr v1), (2, .inl v2), (3, .inr x2)]) [1, 2, 3, 0] dX6_openWindows_29 rfl (Nat.le_of_ble_eq_true rfl) rfl ?_
    refine a_aload_n (k := 3) dX6_openWindows_30 rfl rfl ?_
    obtain ⟨q5, h⟩ := h
    refine g_X6_85 rfl dX6_openWindows_31 (fun _ => q5) ?_
    refine a_aload_n (k := 1) dX6_openWindows_34 rfl rfl ?_
    refine g_X6_59 rfl dX6_openWindows_35 (St_ho hg o1) ?_
    refine k_X6_90 rfl dX6_openWindows_38 (Nat.le_of_ble_eq_true rfl) rfl rfl (Nat.le_of_ble_eq_true rfl) (Nat.le_of_ble_eq_true rfl) ?_
    refine b_istore (L' := [(0, .inr 10), (1, .inr v1), (2, .inl v2), (3, .inr x2), (4, .inl (if μ4 x2 2 < μ4 v1 3 then μ4 v1 3 else μ4 x2 2))]) [1, 2, 3, 4, 0] dX6_openWindows_41 (Nat.le_of_ble_eq_true rfl) rfl ?_
    refine a_aload_n (k := 1) dX6_openWindows_43 rfl rfl ?_
    refine a_iload_n (k := 2) dX6_openWindows_44 rfl rfl ?_
    refine k_X6_95 rfl dX6_openWindows_45 (Nat.le_of_ble_eq_true rfl) rfl (Nat.le_of_ble_eq_true rfl) (Nat.le_of_ble_eq_true rfl) (St_ho hg o1) h (fun x6 n7 μ8 h => ?_)
    refine a_if_eq (tgt := 55) dX6_openWindows_48 (by decide) (fun c9 => ?_) (fun c9 => ?_)
    · replace h := h.1 c9
      refine a_aload_n (k := 3) dX6_openWindows_55 rfl rfl ?_
      obtain ⟨q10, h⟩ := h
      refine g_X6_99 rfl dX6_openWindows_56 (fun _ => q10) ?_
      refine a_sub [0, 1, 2, 4] rfl ?_
      exact h
    · replace h := h.2 c9
      refine a_iconst dX6_openWindows_51 (by decide) ?_
      refine a_goto (tgt := 59) dX6_openWindows_52 (by decide) ?_
      refine a_sub [0, 1, 2, 4] rfl ?_
      exact h
theorem b_X6_openWindows_59 {G : GT} (hg : gx G = FX) {n : Nat} {μ : Mem} {Q : Nat → Mem → Prop} {v1 v2 v4 u0 : Int} (o1 : St v1 7 5) (h : (CI G Y_X8_addRow [.inr 11] n μ (fun (x1 : Int) (n2 : Nat) (μ3 : Mem) => (B_X6_openWindows_73 G Q n2 μ3 v1 v2 v4 u0 x1 0)))) : B_X6_openWindows_59 G Q n μ v1 v2 v4 u0 := by
  show Wa G Y_X6_openWindows (ZV G Y_X6_openWindows Q) 0 0 n μ 59 [(0, .inr 10), (1, .inr v1), (2, .inl v2), (4, .inl v4)] [.inl u0]
  refine b_istore (L' := [(0, .inr 10), (1, .inr v1), (2, .inl v2), (4, .inl v4), (5, .inl u0)]) [1, 2, 3, 4, 0] dX6_openWindows_59 (Nat.le_of_ble_eq_true rfl) rfl ?_
  refine a_aload_n (k := 0) dX6_openWindows_61 rfl rfl ?_
  refine gs_X6_20 rfl dX6_openWindows_62 hg St_10 ?_
  refine k_X6_102 rfl dX6_openWindows_65 (Nat.le_of_ble_eq_true rfl) rfl (Nat.le_of_ble_eq_true rfl) (Nat.le_of_ble_eq_true rfl) (St_ho hg St_11) h (fun x1 n2 μ3 h => ?_)
  refine b_istore (L' := [(0, .inr 10), (1, .inr v1), (2, .inl v2), (4, .inl v4), (5, .inl u0), (6, .inl x1)]) [1, 2, 3, 4, 5, 0] dX6_openWindows_68 (Nat.le_of_ble_eq_true rfl) rfl ?_
  refine a_iconst dX6_openWindows_70 (by decide) ?_
  refine b_istore (L' := [(0, .inr 10), (1, .inr v1), (2, .inl v2), (4, .inl v4), (5, .inl u0), (6, .inl x1), (7, .inl 0)]) [1, 2, 3, 4, 5, 6, 0] dX6_openWindows_71 (Nat.le_of_ble_eq_true rfl) rfl ?_
  exact h
theorem b_X6_openWindows_73 {G : GT} (hg : gx G = FX) {n : Nat} {μ : Mem} {Q : Nat → Mem → Prop} {v1 v2 v4 v5 v6 v7 : Int} (o1 : St v1 7 5) (h : ((99 < v7 → ((inR (v2 + 1)) ∧ (B_X6_openWindows_10 G Q n μ v1 (v2 + 1)))) ∧ (¬ (99 < v7) → ((v7 < v4 → (B_X6_openWindows_106 G Q n μ v1 v2 v4 v5 v6 v7 v7 v6 11)) ∧ (¬ (v7 < v4) → ((v5 ≤ v7 → (B_X6_openWindows_106 G Q n μ v1 v2 v4 v5 v6 v7 v7 v6 11)) ∧ (¬ (v5 ≤ v7) → (B_X6_openWindows_107 G Q n μ v1 v2 v4 v5 v6 v7 1 v7 v6 11)))))))) : B_X6_openWindows_73 G Q n μ v1 v2 v4 v5 v6 v7 := by
  show Wa G Y_X6_openWindows (ZV G Y_X6_openWindows Q) 0 0 n μ 73 [(0, .inr 10), (1, .inr v1), (2, .inl v2), (4, .inl v4), (5, .inl v5), (6, .inl v6), (7, .inl v7)] []
  refine a_iload (k := 6) dX6_openWindows_73 rfl ?_
  refine a_bipush dX6_openWindows_75 (by decide) (by decide) ?_
  refine a_icmp_gt (tgt := 116) dX6_openWindows_77 (by decide) (fun c1 => ?_) (fun c1 => ?_)
  · replace h := h.1 c1
    obtain ⟨q2, h⟩ := h
    refine b_iinc (L' := [(0, .inr 10), (1, .inr v1), (2, .inl (v2 + 1)), (4, .inl v4), (5, .inl v5), (6, .inl v6), (7, .inl v7)]) (k := 2) [1, 2, 0, 3, 4, 5, 6] dX6_openWindows_116 rfl q2 (Nat.le_of_ble_eq_true rfl) rfl ?_
    refine a_goto (tgt := 10) dX6_openWindows_119 (by decide) ?_
    refine a_sub [0, 1, 2] rfl ?_
    exact h
  · replace h := h.2 c1
    refine a_aload_n (k := 0) dX6_openWindows_80 rfl rfl ?_
    refine gs_X6_20 rfl dX6_openWindows_81 hg St_10 ?_
    refine a_iload (k := 5) dX6_openWindows_84 rfl ?_
    refine a_iload (k := 6) dX6_openWindows_86 rfl ?_
    refine a_iload (k := 6) dX6_openWindows_88 rfl ?_
    refine a_iload (k := 3) dX6_openWindows_90 rfl ?_
    refine a_icmp_lt (tgt := 106) dX6_openWindows_92 (by decide) (fun c3 => ?_) (fun c3 => ?_)
    · replace h := h.1 c3
      exact h
    · replace h := h.2 c3
      refine a_iload (k := 6) dX6_openWindows_95 rfl ?_
      refine a_iload (k := 4) dX6_openWindows_97 rfl ?_
      refine a_icmp_ge (tgt := 106) dX6_openWindows_99 (by decide) (fun c4 => ?_) (fun c4 => ?_)
      · replace h := h.1 c4
        exact h
      · replace h := h.2 c4
        refine a_iconst dX6_openWindows_102 (by decide) ?_
        refine a_goto (tgt := 107) dX6_openWindows_103 (by decide) ?_
        exact h
theorem b_X6_openWindows_106 {G : GT} (hg : gx G = FX) {n : Nat} {μ : Mem} {Q : Nat → Mem → Prop} {v1 v2 v4 v5 v6 v7 u0 u1 u2 : Int} (o1 : St v1 7 5) (ou2 : St u2 8 3) (h : (B_X6_openWindows_107 G Q n μ v1 v2 v4 v5 v6 v7 0 u0 u1 u2)) : B_X6_openWindows_106 G Q n μ v1 v2 v4 v5 v6 v7 u0 u1 u2 := by
  show Wa G Y_X6_openWindows (ZV G Y_X6_openWindows Q) 0 0 n μ 106 [(0, .inr 10), (1, .inr v1), (2, .inl v2), (4, .inl v4), (5, .inl v5), (6, .inl v6), (7, .inl v7)] [.inl u0, .inl u1, .inr u2]
  refine a_iconst dX6_openWindows_106 (by decide) ?_
  exact h
theorem b_X6_openWindows_107 {G : GT} (hg : gx G = FX) {n : Nat} {μ : Mem} {Q : Nat → Mem → Prop} {v1 v2 v4 v5 v6 v7 u0 u1 u2 u3 : Int} (o1 : St v1 7 5) (ou3 : St u3 8 3) (h : (CV G Y_X8_put [.inr u3, .inl u2, .inl u1, .inl u0] n μ (fun (n2 : Nat) (μ3 : Mem) => ((inR (v7 + 1)) ∧ (B_X6_openWindows_73 G Q n2 μ3 v1 v2 v4 v5 v6 (v7 + 1)))))) : B_X6_openWindows_107 G Q n μ v1 v2 v4 v5 v6 v7 u0 u1 u2 u3 := by
  show Wa G Y_X6_openWindows (ZV G Y_X6_openWindows Q) 0 0 n μ 107 [(0, .inr 10), (1, .inr v1), (2, .inl v2), (4, .inl v4), (5, .inl v5), (6, .inl v6), (7, .inl v7)] [.inl u0, .inl u1, .inl u2, .inr u3]
  refine k_X6_106 rfl dX6_openWindows_107 (Nat.le_of_ble_eq_true rfl) rfl (Nat.le_of_ble_eq_true rfl) (Nat.le_of_ble_eq_true rfl) (St_ho hg ou3) h (fun n2 μ3 h => ?_)
  obtain ⟨q4, h⟩ := h
  refine b_iinc (L' := [(0, .inr 10), (1, .inr v1), (2, .inl v2), (4, .inl v4), (5, .inl v5), (6, .inl v6), (7, .inl (v7 + 1))]) (k := 6) [1, 2, 3, 4, 5, 6, 0] dX6_openWindows_110 rfl q4 (Nat.le_of_ble_eq_true rfl) rfl ?_
  refine a_goto (tgt := 73) dX6_openWindows_113 (by decide) ?_
  exact h
abbrev B_X6_closeTicks_23 (G : GT) (Q : Nat → Mem → Prop) (n : Nat) (μ : Mem) (v3 : Int) (v4 : Int) (v5 : Int) : Prop := Wa G Y_X6_closeTicks (ZV G Y_X6_closeTicks Q) 0 0 n μ 23 [(0, .inr 10), (3, .inl v3), (4, .inl v4), (5, .inl v5)] []
theorem m_X6_closeTicks {G : GT} (hg : gx G = FX) {n : Nat} {μ : Mem} {Q : Nat → Mem → Prop} {v1 v2 : Int} (o1 : St v1 8 3) (h : (CI G Y_X8_at [.inr v1, .inl v2, .inl 0] n μ (fun (x1 : Int) (n2 : Nat) (μ3 : Mem) => (CI G Y_X8_at [.inr v1, .inl v2, .inl 2] n2 μ3 (fun (x4 : Int) (n5 : Nat) (μ6 : Mem) => (CI G Y_X8_at [.inr v1, .inl v2, .inl 1] n5 μ6 (fun (x7 : Int) (n8 : Nat) (μ9 : Mem) => (B_X6_closeTicks_23 G Q n8 μ9 x1 x4 x7)))))))) : CV G Y_X6_closeTicks [.inr 10, .inr v1, .inl v2] n μ Q := by
  refine e_V (by decide) (Nat.le_of_ble_eq_true rfl) ?_
  show Wa G Y_X6_closeTicks (ZV G Y_X6_closeTicks Q) 0 0 n μ 0 [(0, .inr 10), (1, .inr v1), (2, .inl v2)] []
  refine a_aload_n (k := 1) dX6_closeTicks_0 rfl rfl ?_
  refine a_iload_n (k := 2) dX6_closeTicks_1 rfl rfl ?_
  refine a_iconst dX6_closeTicks_2 (by decide) ?_
  refine k_X6_55 rfl dX6_closeTicks_3 (Nat.le_of_ble_eq_true rfl) rfl (Nat.le_of_ble_eq_true rfl) (Nat.le_of_ble_eq_true rfl) (St_ho hg o1) h (fun x1 n2 μ3 h => ?_)
  refine b_istore_n (L' := [(0, .inr 10), (1, .inr v1), (2, .inl v2), (3, .inl x1)]) [1, 2, 3, 0] dX6_closeTicks_6 rfl (Nat.le_of_ble_eq_true rfl) rfl ?_
  refine a_aload_n (k := 1) dX6_closeTicks_7 rfl rfl ?_
  refine a_iload_n (k := 2) dX6_closeTicks_8 rfl rfl ?_
  refine a_iconst dX6_closeTicks_9 (by decide) ?_
  refine k_X6_55 rfl dX6_closeTicks_10 (Nat.le_of_ble_eq_true rfl) rfl (Nat.le_of_ble_eq_true rfl) (Nat.le_of_ble_eq_true rfl) (St_ho hg o1) h (fun x4 n5 μ6 h => ?_)
  refine b_istore (L' := [(0, .inr 10), (1, .inr v1), (2, .inl v2), (3, .inl x1), (4, .inl x4)]) [1, 2, 3, 4, 0] dX6_closeTicks_13 (Nat.le_of_ble_eq_true rfl) rfl ?_
  refine a_aload_n (k := 1) dX6_closeTicks_15 rfl rfl ?_
  refine a_iload_n (k := 2) dX6_closeTicks_16 rfl rfl ?_
  refine a_iconst dX6_closeTicks_17 (by decide) ?_
  refine k_X6_55 rfl dX6_closeTicks_18 (Nat.le_of_ble_eq_true rfl) rfl (Nat.le_of_ble_eq_true rfl) (Nat.le_of_ble_eq_true rfl) (St_ho hg o1) h (fun x7 n8 μ9 h => ?_)
  refine b_istore (L' := [(0, .inr 10), (1, .inr v1), (2, .inl v2), (3, .inl x1), (4, .inl x4), (5, .inl x7)]) [1, 2, 3, 4, 5, 0] dX6_closeTicks_21 (Nat.le_of_ble_eq_true rfl) rfl ?_
  refine a_sub [0, 3, 4, 5] rfl ?_
  exact h
theorem b_X6_closeTicks_23 {G : GT} (hg : gx G = FX) {n : Nat} {μ : Mem} {Q : Nat → Mem → Prop} {v3 v4 v5 : Int}  (h : ((v4 ≤ v5 → (Q n μ)) ∧ (¬ (v4 ≤ v5) → (CV G Y_X8_put [.inr 11, .inl v3, .inl v5, .inl 0] n μ (fun (n3 : Nat) (μ4 : Mem) => ((inR (v5 + 1)) ∧ (B_X6_closeTicks_23 G Q n3 μ4 v3 v4 (v5 + 1)))))))) : B_X6_closeTicks_23 G Q n μ v3 v4 v5 := by
  show Wa G Y_X6_closeTicks (ZV G Y_X6_closeTicks Q) 0 0 n μ 23 [(0, .inr 10), (3, .inl v3), (4, .inl v4), (5, .inl v5)] []
  refine a_iload (k := 3) dX6_closeTicks_23 rfl ?_
  refine a_iload (k := 2) dX6_closeTicks_25 rfl ?_
  refine a_icmp_ge (tgt := 47) dX6_closeTicks_27 (by decide) (fun c1 => ?_) (fun c1 => ?_)
  · replace h := h.1 c1
    exact a_ret dX6_closeTicks_47 rfl (Nat.le_of_ble_eq_true rfl) (Nat.le_of_ble_eq_true rfl) h
  · replace h := h.2 c1
    refine a_aload_n (k := 0) dX6_closeTicks_30 rfl rfl ?_
    refine gs_X6_20 rfl dX6_closeTicks_31 hg St_10 ?_
    refine a_iload_n (k := 1) dX6_closeTicks_34 rfl rfl ?_
    refine a_iload (k := 3) dX6_closeTicks_35 rfl ?_
    refine a_iconst dX6_closeTicks_37 (by decide) ?_
    refine k_X6_106 rfl dX6_closeTicks_38 (Nat.le_of_ble_eq_true rfl) rfl (Nat.le_of_ble_eq_true rfl) (Nat.le_of_ble_eq_true rfl) (St_ho hg St_11) h (fun n3 μ4 h => ?_)
    obtain ⟨q5, h⟩ := h
    refine b_iinc (L' := [(0, .inr 10), (3, .inl v3), (4, .inl v4), (5, .inl (v5 + 1))]) (k := 3) [1, 2, 3, 0] dX6_closeTicks_41 rfl q5 (Nat.le_of_ble_eq_true rfl) rfl ?_
    refine a_goto (tgt := 23) dX6_closeTicks_44 (by decide) ?_
    exact h
abbrev B_X6_countRuns_2 (G : GT) (Q : Nat → Mem → Prop) (n : Nat) (μ : Mem) (v1 : Int) : Prop := Wa G Y_X6_countRuns (ZV G Y_X6_countRuns Q) 0 0 n μ 2 [(0, .inr 10), (1, .inl v1)] []
abbrev B_X6_countRuns_18 (G : GT) (Q : Nat → Mem → Prop) (n : Nat) (μ : Mem) (v1 : Int) (v2 : Int) (v3 : Int) : Prop := Wa G Y_X6_countRuns (ZV G Y_X6_countRuns Q) 0 0 n μ 18 [(0, .inr 10), (1, .inl v1), (2, .inl v2), (3, .inl v3)] []
abbrev B_X6_countRuns_41 (G : GT) (Q : Nat → Mem → Prop) (n : Nat) (μ : Mem) (v1 : Int) (v3 : Int) (u0 : Int) : Prop := Wa G Y_X6_countRuns (ZV G Y_X6_countRuns Q) 0 0 n μ 41 [(0, .inr 10), (1, .inl v1), (3, .inl v3)] [.inl u0]
theorem m_X6_countRuns {G : GT} (hg : gx G = FX) {n : Nat} {μ : Mem} {Q : Nat → Mem → Prop}  (h : (B_X6_countRuns_2 G Q n μ 0)) : CV G Y_X6_countRuns [.inr 10] n μ Q := by
  refine e_V (by decide) (Nat.le_of_ble_eq_true rfl) ?_
  show Wa G Y_X6_countRuns (ZV G Y_X6_countRuns Q) 0 0 n μ 0 [(0, .inr 10)] []
  refine a_iconst dX6_countRuns_0 (by decide) ?_
  refine b_istore_n (L' := [(0, .inr 10), (1, .inl 0)]) [1, 0] dX6_countRuns_1 rfl (Nat.le_of_ble_eq_true rfl) rfl ?_
  exact h
theorem b_X6_countRuns_2 {G : GT} (hg : gx G = FX) {n : Nat} {μ : Mem} {Q : Nat → Mem → Prop} {v1 : Int}  (h : (((μ 11 2) ≤ v1 → (Q n μ)) ∧ (¬ ((μ 11 2) ≤ v1) → (B_X6_countRuns_18 G Q n μ v1 0 99)))) : B_X6_countRuns_2 G Q n μ v1 := by
  show Wa G Y_X6_countRuns (ZV G Y_X6_countRuns Q) 0 0 n μ 2 [(0, .inr 10), (1, .inl v1)] []
  refine a_iload_n (k := 1) dX6_countRuns_2 rfl rfl ?_
  refine a_aload_n (k := 0) dX6_countRuns_3 rfl rfl ?_
  refine gs_X6_20 rfl dX6_countRuns_4 hg St_10 ?_
  refine g_X6_52 rfl dX6_countRuns_7 (St_ho hg St_11) ?_
  refine a_icmp_ge (tgt := 64) dX6_countRuns_10 (by decide) (fun c1 => ?_) (fun c1 => ?_)
  · replace h := h.1 c1
    exact a_ret dX6_countRuns_64 rfl (Nat.le_of_ble_eq_true rfl) (Nat.le_of_ble_eq_true rfl) h
  · replace h := h.2 c1
    refine a_iconst dX6_countRuns_13 (by decide) ?_
    refine b_istore_n (L' := [(0, .inr 10), (1, .inl v1), (2, .inl 0)]) [1, 2, 0] dX6_countRuns_14 rfl (Nat.le_of_ble_eq_true rfl) rfl ?_
    refine a_bipush dX6_countRuns_15 (by decide) (by decide) ?_
    refine b_istore_n (L' := [(0, .inr 10), (1, .inl v1), (2, .inl 0), (3, .inl 99)]) [1, 2, 3, 0] dX6_countRuns_17 rfl (Nat.le_of_ble_eq_true rfl) rfl ?_
    exact h
theorem b_X6_countRuns_18 {G : GT} (hg : gx G = FX) {n : Nat} {μ : Mem} {Q : Nat → Mem → Prop} {v1 v2 v3 : Int}  (h : ((v3 < 0 → ((inR (v1 + 1)) ∧ (B_X6_countRuns_2 G Q n μ (v1 + 1)))) ∧ (¬ (v3 < 0) → (CI G Y_X8_at [.inr 11, .inl v1, .inl v3] n μ (fun (x3 : Int) (n4 : Nat) (μ5 : Mem) => ((¬ (x3 = 0) → ((inR (v2 + 1)) ∧ (B_X6_countRuns_41 G Q n4 μ5 v1 v3 (v2 + 1)))) ∧ (x3 = 0 → (B_X6_countRuns_41 G Q n4 μ5 v1 v3 0)))))))) : B_X6_countRuns_18 G Q n μ v1 v2 v3 := by
  show Wa G Y_X6_countRuns (ZV G Y_X6_countRuns Q) 0 0 n μ 18 [(0, .inr 10), (1, .inl v1), (2, .inl v2), (3, .inl v3)] []
  refine a_iload_n (k := 3) dX6_countRuns_18 rfl rfl ?_
  refine a_if_lt (tgt := 58) dX6_countRuns_19 (by decide) (fun c1 => ?_) (fun c1 => ?_)
  · replace h := h.1 c1
    obtain ⟨q2, h⟩ := h
    refine b_iinc (L' := [(0, .inr 10), (1, .inl (v1 + 1)), (2, .inl v2), (3, .inl v3)]) (k := 1) [1, 0, 2, 3] dX6_countRuns_58 rfl q2 (Nat.le_of_ble_eq_true rfl) rfl ?_
    refine a_goto (tgt := 2) dX6_countRuns_61 (by decide) ?_
    refine a_sub [0, 1] rfl ?_
    exact h
  · replace h := h.2 c1
    refine a_aload_n (k := 0) dX6_countRuns_22 rfl rfl ?_
    refine gs_X6_20 rfl dX6_countRuns_23 hg St_10 ?_
    refine a_iload_n (k := 1) dX6_countRuns_26 rfl rfl ?_
    refine a_iload_n (k := 3) dX6_countRuns_27 rfl rfl ?_
    refine k_X6_55 rfl dX6_countRuns_28 (Nat.le_of_ble_eq_true rfl) rfl (Nat.le_of_ble_eq_true rfl) (Nat.le_of_ble_eq_true rfl) (St_ho hg St_11) h (fun x3 n4 μ5 h => ?_)
    refine a_if_ne (tgt := 38) dX6_countRuns_31 (by decide) (fun c6 => ?_) (fun c6 => ?_)
    · replace h := h.1 c6
      refine a_iload_n (k := 2) dX6_countRuns_38 rfl rfl ?_
      refine a_iconst dX6_countRuns_39 (by decide) ?_
      obtain ⟨q7, h⟩ := h
      refine a_iadd dX6_countRuns_40 q7 ?_
      refine a_sub [0, 1, 3] rfl ?_
      exact h
    · replace h := h.2 c6
      refine a_iconst dX6_countRuns_34 (by decide) ?_
      refine a_goto (tgt := 41) dX6_countRuns_35 (by decide) ?_
      refine a_sub [0, 1, 3] rfl ?_
      exact h
theorem b_X6_countRuns_41 {G : GT} (hg : gx G = FX) {n : Nat} {μ : Mem} {Q : Nat → Mem → Prop} {v1 v3 u0 : Int}  (h : (CV G Y_X8_put [.inr 11, .inl v1, .inl v3, .inl u0] n μ (fun (n2 : Nat) (μ3 : Mem) => ((inR (v3 + (-1))) ∧ (B_X6_countRuns_18 G Q n2 μ3 v1 u0 (v3 + (-1))))))) : B_X6_countRuns_41 G Q n μ v1 v3 u0 := by
  show Wa G Y_X6_countRuns (ZV G Y_X6_countRuns Q) 0 0 n μ 41 [(0, .inr 10), (1, .inl v1), (3, .inl v3)] [.inl u0]
  refine b_istore_n (L' := [(0, .inr 10), (1, .inl v1), (2, .inl u0), (3, .inl v3)]) [1, 2, 0, 3] dX6_countRuns_41 rfl (Nat.le_of_ble_eq_true rfl) rfl ?_
  refine a_aload_n (k := 0) dX6_countRuns_42 rfl rfl ?_
  refine gs_X6_20 rfl dX6_countRuns_43 hg St_10 ?_
  refine a_iload_n (k := 1) dX6_countRuns_46 rfl rfl ?_
  refine a_iload_n (k := 3) dX6_countRuns_47 rfl rfl ?_
  refine a_iload_n (k := 2) dX6_countRuns_48 rfl rfl ?_
  refine k_X6_106 rfl dX6_countRuns_49 (Nat.le_of_ble_eq_true rfl) rfl (Nat.le_of_ble_eq_true rfl) (Nat.le_of_ble_eq_true rfl) (St_ho hg St_11) h (fun n2 μ3 h => ?_)
  obtain ⟨q4, h⟩ := h
  refine b_iinc (L' := [(0, .inr 10), (1, .inl v1), (2, .inl u0), (3, .inl (v3 + (-1)))]) (k := 3) [1, 2, 3, 0] dX6_countRuns_52 rfl q4 (Nat.le_of_ble_eq_true rfl) rfl ?_
  refine a_goto (tgt := 18) dX6_countRuns_55 (by decide) ?_
  exact h
theorem m_X6_seek {G : GT} (hg : gx G = FX) {n : Nat} {μ : Mem} {Q : Int → Nat → Mem → Prop} {v1 v2 v3 v4 v5 : Int}  (h : (CV G Y_X8_cut [.inr 15, .inl 0] n (up (up (up μ 10 5 v3) 10 6 v4) 10 7 v5) (fun (n2 : Nat) (μ3 : Mem) => (CV G (Y_X6_explore 6) [.inr 10, .inl v1, .inl v2, .inl 0, .inl (iShl 1 v1)] n2 (up μ3 10 4 1000) (fun (n5 : Nat) (μ6 : Mem) => ((¬ ((μ6 15 2) = 0) → (Q (μ6 10 4) n5 μ6)) ∧ ((μ6 15 2) = 0 → (Q (-9) n5 μ6)))))))) : CI G Y_X6_seek [.inr 10, .inl v1, .inl v2, .inl v3, .inl v4, .inl v5] n μ Q := by
  refine e_I (by decide) (Nat.le_of_ble_eq_true rfl) ?_
  show Wa G Y_X6_seek (ZI G Y_X6_seek Q) 0 0 n μ 0 [(0, .inr 10), (1, .inl v1), (2, .inl v2), (3, .inl v3), (4, .inl v4), (5, .inl v5)] []
  refine a_aload_n (k := 0) dX6_seek_0 rfl rfl ?_
  refine a_iload_n (k := 3) dX6_seek_1 rfl rfl ?_
  refine p_X6_110 rfl dX6_seek_2 (St_ho hg St_10) (FX_put hg St_10 rfl) ?_
  refine a_aload_n (k := 0) dX6_seek_5 rfl rfl ?_
  refine a_iload (k := 4) dX6_seek_6 rfl ?_
  refine p_X6_113 rfl dX6_seek_8 (St_ho hg St_10) (FX_put hg St_10 rfl) ?_
  refine a_aload_n (k := 0) dX6_seek_11 rfl rfl ?_
  refine a_iload (k := 5) dX6_seek_12 rfl ?_
  refine p_X6_116 rfl dX6_seek_14 (St_ho hg St_10) (FX_put hg St_10 rfl) ?_
  refine a_aload_n (k := 0) dX6_seek_17 rfl rfl ?_
  refine gs_X6_27 rfl dX6_seek_18 hg St_10 ?_
  refine a_iconst dX6_seek_21 (by decide) ?_
  refine k_X6_72 rfl dX6_seek_22 (Nat.le_of_ble_eq_true rfl) rfl (Nat.le_of_ble_eq_true rfl) (Nat.le_of_ble_eq_true rfl) (St_ho hg St_15) h (fun n2 μ3 h => ?_)
  refine a_aload_n (k := 0) dX6_seek_25 rfl rfl ?_
  refine a_sipush dX6_seek_26 (by decide) (by decide) ?_
  refine p_X6_30 rfl dX6_seek_29 (St_ho hg St_10) (FX_put hg St_10 rfl) ?_
  refine a_aload_n (k := 0) dX6_seek_32 rfl rfl ?_
  refine a_iload_n (k := 1) dX6_seek_33 rfl rfl ?_
  refine a_iload_n (k := 2) dX6_seek_34 rfl rfl ?_
  refine a_iconst dX6_seek_35 (by decide) ?_
  refine a_iconst dX6_seek_36 (by decide) ?_
  refine a_iload_n (k := 1) dX6_seek_37 rfl rfl ?_
  refine a_ishl dX6_seek_38 ?_
  refine k_X6_119 rfl dX6_seek_39 (Nat.le_of_ble_eq_true rfl) rfl (Nat.le_of_ble_eq_true rfl) (Nat.le_of_ble_eq_true rfl) h (fun n5 μ6 h => ?_)
  refine a_aload_n (k := 0) dX6_seek_42 rfl rfl ?_
  refine gs_X6_27 rfl dX6_seek_43 hg St_10 ?_
  refine g_X6_52 rfl dX6_seek_46 (St_ho hg St_15) ?_
  refine a_if_ne (tgt := 57) dX6_seek_49 (by decide) (fun c7 => ?_) (fun c7 => ?_)
  · replace h := h.1 c7
    refine a_aload_n (k := 0) dX6_seek_57 rfl rfl ?_
    refine g_X6_30 rfl dX6_seek_58 (St_ho hg St_10) ?_
    exact a_iret dX6_seek_61 rfl (Nat.le_of_ble_eq_true rfl) (Nat.le_of_ble_eq_true rfl) h
  · replace h := h.2 c7
    refine a_bipush dX6_seek_52 (by decide) (by decide) ?_
    refine a_goto (tgt := 61) dX6_seek_54 (by decide) ?_
    exact a_iret dX6_seek_61 rfl (Nat.le_of_ble_eq_true rfl) (Nat.le_of_ble_eq_true rfl) h
abbrev B_X6_explore_9 (G : GT) (d : Nat) (Q : Nat → Mem → Prop) (n : Nat) (μ : Mem) (v0 : Int) (v1 : Int) (v2 : Int) (v3 : Int) (v4 : Int) (v5 : Int) : Prop := Wa G (Y_X6_explore (d + 1)) (ZV G (Y_X6_explore (d + 1)) Q) 0 0 n μ 9 [(0, .inr v0), (1, .inl v1), (2, .inl v2), (3, .inl v3), (4, .inl v4), (5, .inl v5)] []
abbrev B_X6_explore_198 (G : GT) (d : Nat) (Q : Nat → Mem → Prop) (n : Nat) (μ : Mem) (v0 : Int) (v1 : Int) (v2 : Int) (v3 : Int) (v4 : Int) (v5 : Int) (v9 : Int) : Prop := Wa G (Y_X6_explore (d + 1)) (ZV G (Y_X6_explore (d + 1)) Q) 0 0 n μ 198 [(0, .inr v0), (1, .inl v1), (2, .inl v2), (3, .inl v3), (4, .inl v4), (5, .inl v5), (9, .inl v9)] []
theorem m_X6_explore {G : GT} (hg : gx G = FX) {d : Nat} {n : Nat} {μ : Mem} {Q : Nat → Mem → Prop} {v0 v1 v2 v3 v4 : Int} (o0 : St v0 6 8) (h : ((v3 < 5 → (B_X6_explore_9 G d Q n μ v0 v1 v2 v3 v4 0)) ∧ (¬ (v3 < 5) → (Q n μ)))) : CV G (Y_X6_explore (d + 1)) [.inr v0, .inl v1, .inl v2, .inl v3, .inl v4] n μ Q := by
  refine e_V rfl (Nat.le_of_ble_eq_true rfl) ?_
  show Wa G (Y_X6_explore (d + 1)) (ZV G (Y_X6_explore (d + 1)) Q) 0 0 n μ 0 [(0, .inr v0), (1, .inl v1), (2, .inl v2), (3, .inl v3), (4, .inl v4)] []
  refine a_iload_n (k := 3) dX6_explore_0 rfl rfl ?_
  refine a_iconst dX6_explore_1 (by decide) ?_
  refine a_icmp_lt (tgt := 6) dX6_explore_2 (by decide) (fun c1 => ?_) (fun c1 => ?_)
  · replace h := h.1 c1
    refine a_iconst dX6_explore_6 (by decide) ?_
    refine b_istore (L' := [(0, .inr v0), (1, .inl v1), (2, .inl v2), (3, .inl v3), (4, .inl v4), (5, .inl 0)]) [1, 2, 3, 4, 5, 0] dX6_explore_7 (Nat.le_of_ble_eq_true rfl) rfl ?_
    exact h
  · replace h := h.2 c1
    exact a_ret dX6_explore_5 rfl (Nat.le_of_ble_eq_true rfl) (Nat.le_of_ble_eq_true rfl) h
theorem b_X6_explore_9 {G : GT} (hg : gx G = FX) {d : Nat} {n : Nat} {μ : Mem} {Q : Nat → Mem → Prop} {v0 v1 v2 v3 v4 v5 : Int} (o0 : St v0 6 8) (h : (((μ 7 2) ≤ v5 → (Q n μ)) ∧ (¬ ((μ 7 2) ≤ v5) → (CR G Y_X3_contactAt [.inr 7, .inl v5] n μ (fun (x2 : Int) (n3 : Nat) (μ4 : Mem) => ((v5 = (μ4 v0 7) → ((inR (v5 + 1)) ∧ (B_X6_explore_9 G d Q n3 μ4 v0 v1 v2 v3 v4 (v5 + 1)))) ∧ (¬ (v5 = (μ4 v0 7)) → ((Co n3 x2) ∧ ((¬ ((μ4 x2 0) = v1) → ((inR (v5 + 1)) ∧ (B_X6_explore_9 G d Q n3 μ4 v0 v1 v2 v3 v4 (v5 + 1)))) ∧ ((μ4 x2 0) = v1 → ((Co n3 x2) ∧ ((¬ ((iAnd (iShr v4 (μ4 x2 1)) 1) = 1) → ((Co n3 x2) ∧ (CI G Y_X1_ticksFor [.inr x2, .inl (μ4 v0 6)] n3 μ4 (fun (x12 : Int) (n13 : Nat) (μ14 : Mem) => (CI G Y_X6_firstBegin [.inr v0, .inl v5, .inl v2, .inl x12] n13 μ14 (fun (x15 : Int) (n16 : Nat) (μ17 : Mem) => ((inR (x15 + x12)) ∧ ((Co n16 x2) ∧ ((inR ((x15 + x12) + (μ17 x2 5))) ∧ ((x15 = (-9) → ((inR (v5 + 1)) ∧ (B_X6_explore_9 G d Q n16 μ17 v0 v1 v2 v3 v4 (v5 + 1)))) ∧ (¬ (x15 = (-9)) → ((((x15 + x12) + (μ17 x2 5)) ≤ (μ17 v0 4) → ((inR (x15 + x12)) ∧ (CV G Y_X6_setTrail [.inr v0, .inl v3, .inl v5, .inl x15, .inl (x15 + x12), .inl ((x15 + x12) + (μ17 x2 5))] n16 μ17 (fun (n26 : Nat) (μ27 : Mem) => ((Co n26 x2) ∧ (((μ27 x2 1) = (μ27 v0 5) → ((((x15 + x12) + (μ17 x2 5)) < (μ27 v0 4) → (B_X6_explore_198 G d Q n26 μ27 v0 v1 v2 v3 v4 v5 ((x15 + x12) + (μ17 x2 5)))) ∧ (¬ (((x15 + x12) + (μ17 x2 5)) < (μ27 v0 4)) → ((inR (v3 + 1)) ∧ (((μ27 15 2) ≤ (v3 + 1) → ((inR (v5 + 1)) ∧ (B_X6_explore_9 G d Q n26 μ27 v0 v1 v2 v3 v4 (v5 + 1)))) ∧ (¬ ((μ27 15 2) ≤ (v3 + 1)) → (B_X6_explore_198 G d Q n26 μ27 v0 v1 v2 v3 v4 v5 ((x15 + x12) + (μ17 x2 5))))))))) ∧ (¬ ((μ27 x2 1) = (μ27 v0 5)) → ((Co n26 x2) ∧ ((inR (v3 + 1)) ∧ ((Co n26 x2) ∧ (CV G (Y_X6_explore d) [.inr v0, .inl (μ27 x2 1), .inl ((x15 + x12) + (μ17 x2 5)), .inl (v3 + 1), .inl (iOr v4 (iShl 1 (μ27 x2 1)))] n26 μ27 (fun (n38 : Nat) (μ39 : Mem) => ((inR (v5 + 1)) ∧ (B_X6_explore_9 G d Q n38 μ39 v0 v1 v2 v3 v4 (v5 + 1))))))))))))))) ∧ (¬ (((x15 + x12) + (μ17 x2 5)) ≤ (μ17 v0 4)) → ((inR (v5 + 1)) ∧ (B_X6_explore_9 G d Q n16 μ17 v0 v1 v2 v3 v4 (v5 + 1)))))))))))))))) ∧ ((iAnd (iShr v4 (μ4 x2 1)) 1) = 1 → ((inR (v5 + 1)) ∧ (B_X6_explore_9 G d Q n3 μ4 v0 v1 v2 v3 v4 (v5 + 1)))))))))))))))) : B_X6_explore_9 G d Q n μ v0 v1 v2 v3 v4 v5 := by
  show Wa G (Y_X6_explore (d + 1)) (ZV G (Y_X6_explore (d + 1)) Q) 0 0 n μ 9 [(0, .inr v0), (1, .inl v1), (2, .inl v2), (3, .inl v3), (4, .inl v4), (5, .inl v5)] []
  refine a_iload (k := 5) dX6_explore_9 rfl ?_
  refine a_aload_n (k := 0) dX6_explore_11 rfl rfl ?_
  refine gs_X6_9 rfl dX6_explore_12 hg o0 ?_
  refine g_X6_76 rfl dX6_explore_15 (St_ho hg St_7) ?_
  refine a_icmp_ge (tgt := 229) dX6_explore_18 (by decide) (fun c1 => ?_) (fun c1 => ?_)
  · replace h := h.1 c1
    exact a_ret dX6_explore_229 rfl (Nat.le_of_ble_eq_true rfl) (Nat.le_of_ble_eq_true rfl) h
  · replace h := h.2 c1
    refine a_aload_n (k := 0) dX6_explore_21 rfl rfl ?_
    refine gs_X6_9 rfl dX6_explore_22 hg o0 ?_
    refine a_iload (k := 5) dX6_explore_25 rfl ?_
    refine k_X6_81 rfl dX6_explore_27 (Nat.le_of_ble_eq_true rfl) (fits_exc rfl rfl) (Nat.le_of_ble_eq_true rfl) (Nat.le_of_ble_eq_true rfl) (St_ho hg St_7) h (fun x2 n3 μ4 _ h => ?_)
    refine b_astore (L' := [(0, .inr v0), (1, .inl v1), (2, .inl v2), (3, .inl v3), (4, .inl v4), (5, .inl v5), (6, .inr x2)]) [1, 2, 3, 4, 5, 6, 0] dX6_explore_30 (Nat.le_of_ble_eq_true rfl) rfl ?_
    refine a_iload (k := 5) dX6_explore_32 rfl ?_
    refine a_aload_n (k := 0) dX6_explore_34 rfl rfl ?_
    refine g_X6_116 rfl dX6_explore_35 (St_ho hg o0) ?_
    refine a_icmp_eq (tgt := 223) dX6_explore_38 (by decide) (fun c5 => ?_) (fun c5 => ?_)
    · replace h := h.1 c5
      obtain ⟨q6, h⟩ := h
      refine b_iinc (L' := [(0, .inr v0), (1, .inl v1), (2, .inl v2), (3, .inl v3), (4, .inl v4), (5, .inl (v5 + 1)), (6, .inr x2)]) (k := 5) [1, 2, 3, 4, 5, 0, 6] dX6_explore_223 rfl q6 (Nat.le_of_ble_eq_true rfl) rfl ?_
      refine a_goto (tgt := 9) dX6_explore_226 (by decide) ?_
      refine a_sub [0, 1, 2, 3, 4, 5] rfl ?_
      exact h
    · replace h := h.2 c5
      refine a_aload (k := 6) dX6_explore_41 rfl ?_
      obtain ⟨q7, h⟩ := h
      refine g_X6_123 rfl dX6_explore_43 (fun _ => q7) ?_
      refine a_iload_n (k := 1) dX6_explore_46 rfl rfl ?_
      refine a_icmp_ne (tgt := 223) dX6_explore_47 (by decide) (fun c8 => ?_) (fun c8 => ?_)
      · replace h := h.1 c8
        obtain ⟨q9, h⟩ := h
        refine b_iinc (L' := [(0, .inr v0), (1, .inl v1), (2, .inl v2), (3, .inl v3), (4, .inl v4), (5, .inl (v5 + 1)), (6, .inr x2)]) (k := 5) [1, 2, 3, 4, 5, 0, 6] dX6_explore_223 rfl q9 (Nat.le_of_ble_eq_true rfl) rfl ?_
        refine a_goto (tgt := 9) dX6_explore_226 (by decide) ?_
        refine a_sub [0, 1, 2, 3, 4, 5] rfl ?_
        exact h
      · replace h := h.2 c8
        refine a_iload (k := 4) dX6_explore_50 rfl ?_
        refine a_aload (k := 6) dX6_explore_52 rfl ?_
        obtain ⟨q10, h⟩ := h
        refine g_X6_126 rfl dX6_explore_54 (fun _ => q10) ?_
        refine a_ishr dX6_explore_57 ?_
        refine a_iconst dX6_explore_58 (by decide) ?_
        refine a_iand dX6_explore_59 ?_
        refine a_iconst dX6_explore_60 (by decide) ?_
        refine a_icmp_ne (tgt := 67) dX6_explore_61 (by decide) (fun c11 => ?_) (fun c11 => ?_)
        · replace h := h.1 c11
          refine a_aload (k := 6) dX6_explore_67 rfl ?_
          refine a_aload_n (k := 0) dX6_explore_69 rfl rfl ?_
          refine g_X6_113 rfl dX6_explore_70 (St_ho hg o0) ?_
          obtain ⟨q42, h⟩ := h
          refine k_X6_129 rfl dX6_explore_73 (Nat.le_of_ble_eq_true rfl) (fits_exc rfl rfl) (Nat.le_of_ble_eq_true rfl) (Nat.le_of_ble_eq_true rfl) (fun _ => q42) h (fun x12 n13 μ14 h => ?_)
          refine b_istore (L' := [(0, .inr v0), (1, .inl v1), (2, .inl v2), (3, .inl v3), (4, .inl v4), (5, .inl v5), (6, .inr x2), (7, .inl x12)]) [1, 2, 3, 4, 5, 6, 7, 0] dX6_explore_76 (Nat.le_of_ble_eq_true rfl) rfl ?_
          refine a_aload_n (k := 0) dX6_explore_78 rfl rfl ?_
          refine a_iload (k := 5) dX6_explore_79 rfl ?_
          refine a_iload_n (k := 2) dX6_explore_81 rfl rfl ?_
          refine a_iload (k := 7) dX6_explore_82 rfl ?_
          refine k_X6_133 rfl dX6_explore_84 (Nat.le_of_ble_eq_true rfl) (fits_exc rfl rfl) (Nat.le_of_ble_eq_true rfl) (Nat.le_of_ble_eq_true rfl) (St_ho hg o0) h (fun x15 n16 μ17 h => ?_)
          refine b_istore (L' := [(0, .inr v0), (1, .inl v1), (2, .inl v2), (3, .inl v3), (4, .inl v4), (5, .inl v5), (6, .inr x2), (7, .inl x12), (8, .inl x15)]) [1, 2, 3, 4, 5, 6, 7, 8, 0] dX6_explore_87 (Nat.le_of_ble_eq_true rfl) rfl ?_
          refine a_iload (k := 8) dX6_explore_89 rfl ?_
          refine a_iload (k := 7) dX6_explore_91 rfl ?_
          obtain ⟨q18, h⟩ := h
          refine a_iadd dX6_explore_93 q18 ?_
          refine a_aload (k := 6) dX6_explore_94 rfl ?_
          obtain ⟨q19, h⟩ := h
          refine g_X6_137 rfl dX6_explore_96 (fun _ => q19) ?_
          obtain ⟨q20, h⟩ := h
          refine a_iadd dX6_explore_99 q20 ?_
          refine b_istore (L' := [(0, .inr v0), (1, .inl v1), (2, .inl v2), (3, .inl v3), (4, .inl v4), (5, .inl v5), (6, .inr x2), (7, .inl x12), (8, .inl x15), (9, .inl ((x15 + x12) + (μ17 x2 5)))]) [1, 2, 3, 4, 5, 6, 7, 8, 9, 0] dX6_explore_100 (Nat.le_of_ble_eq_true rfl) rfl ?_
          refine a_iload (k := 8) dX6_explore_102 rfl ?_
          refine a_bipush dX6_explore_104 (by decide) (by decide) ?_
          refine a_icmp_eq (tgt := 223) dX6_explore_106 (by decide) (fun c21 => ?_) (fun c21 => ?_)
          · replace h := h.1 c21
            obtain ⟨q22, h⟩ := h
            refine b_iinc (L' := [(0, .inr v0), (1, .inl v1), (2, .inl v2), (3, .inl v3), (4, .inl v4), (5, .inl (v5 + 1)), (6, .inr x2), (7, .inl x12), (8, .inl x15), (9, .inl ((x15 + x12) + (μ17 x2 5)))]) (k := 5) [1, 2, 3, 4, 5, 0, 6, 7, 8, 9] dX6_explore_223 rfl q22 (Nat.le_of_ble_eq_true rfl) rfl ?_
            refine a_goto (tgt := 9) dX6_explore_226 (by decide) ?_
            refine a_sub [0, 1, 2, 3, 4, 5] rfl ?_
            exact h
          · replace h := h.2 c21
            refine a_iload (k := 9) dX6_explore_109 rfl ?_
            refine a_aload_n (k := 0) dX6_explore_111 rfl rfl ?_
            refine g_X6_30 rfl dX6_explore_112 (St_ho hg o0) ?_
            refine a_icmp_le (tgt := 121) dX6_explore_115 (by decide) (fun c23 => ?_) (fun c23 => ?_)
            · replace h := h.1 c23
              refine a_aload_n (k := 0) dX6_explore_121 rfl rfl ?_
              refine a_iload_n (k := 3) dX6_explore_122 rfl rfl ?_
              refine a_iload (k := 5) dX6_explore_123 rfl ?_
              refine a_iload (k := 8) dX6_explore_125 rfl ?_
              refine a_iload (k := 8) dX6_explore_127 rfl ?_
              refine a_iload (k := 7) dX6_explore_129 rfl ?_
              obtain ⟨q24, h⟩ := h
              refine a_iadd dX6_explore_131 q24 ?_
              refine a_iload (k := 9) dX6_explore_132 rfl ?_
              refine k_X6_140 rfl dX6_explore_134 (Nat.le_of_ble_eq_true rfl) (fits_exc rfl rfl) (Nat.le_of_ble_eq_true rfl) (Nat.le_of_ble_eq_true rfl) (St_ho hg o0) h (fun n26 μ27 h => ?_)
              refine a_aload (k := 6) dX6_explore_137 rfl ?_
              obtain ⟨q28, h⟩ := h
              refine g_X6_126 rfl dX6_explore_139 (fun _ => q28) ?_
              refine a_aload_n (k := 0) dX6_explore_142 rfl rfl ?_
              refine g_X6_110 rfl dX6_explore_143 (St_ho hg o0) ?_
              refine a_icmp_eq (tgt := 176) dX6_explore_146 (by decide) (fun c29 => ?_) (fun c29 => ?_)
              · replace h := h.1 c29
                refine a_iload (k := 9) dX6_explore_176 rfl ?_
                refine a_aload_n (k := 0) dX6_explore_178 rfl rfl ?_
                refine g_X6_30 rfl dX6_explore_179 (St_ho hg o0) ?_
                refine a_icmp_lt (tgt := 198) dX6_explore_182 (by decide) (fun c30 => ?_) (fun c30 => ?_)
                · replace h := h.1 c30
                  refine a_sub [0, 1, 2, 3, 4, 5, 9] rfl ?_
                  exact h
                · replace h := h.2 c30
                  refine a_iload_n (k := 3) dX6_explore_185 rfl rfl ?_
                  refine a_iconst dX6_explore_186 (by decide) ?_
                  obtain ⟨q31, h⟩ := h
                  refine a_iadd dX6_explore_187 q31 ?_
                  refine a_aload_n (k := 0) dX6_explore_188 rfl rfl ?_
                  refine gs_X6_27 rfl dX6_explore_189 hg o0 ?_
                  refine g_X6_52 rfl dX6_explore_192 (St_ho hg St_15) ?_
                  refine a_icmp_ge (tgt := 223) dX6_explore_195 (by decide) (fun c32 => ?_) (fun c32 => ?_)
                  · replace h := h.1 c32
                    obtain ⟨q33, h⟩ := h
                    refine b_iinc (L' := [(0, .inr v0), (1, .inl v1), (2, .inl v2), (3, .inl v3), (4, .inl v4), (5, .inl (v5 + 1)), (6, .inr x2), (7, .inl x12), (8, .inl x15), (9, .inl ((x15 + x12) + (μ17 x2 5)))]) (k := 5) [1, 2, 3, 4, 5, 0, 6, 7, 8, 9] dX6_explore_223 rfl q33 (Nat.le_of_ble_eq_true rfl) rfl ?_
                    refine a_goto (tgt := 9) dX6_explore_226 (by decide) ?_
                    refine a_sub [0, 1, 2, 3, 4, 5] rfl ?_
                    exact h
                  · replace h := h.2 c32
                    refine a_sub [0, 1, 2, 3, 4, 5, 9] rfl ?_
                    exact h
              · replace h := h.2 c29
                refine a_aload_n (k := 0) dX6_explore_149 rfl rfl ?_
                refine a_aload (k := 6) dX6_explore_150 rfl ?_
                obtain ⟨q34, h⟩ := h
                refine g_X6_126 rfl dX6_explore_152 (fun _ => q34) ?_
                refine a_iload (k := 9) dX6_explore_155 rfl ?_
                refine a_iload_n (k := 3) dX6_explore_157 rfl rfl ?_
                refine a_iconst dX6_explore_158 (by decide) ?_
                obtain ⟨q35, h⟩ := h
                refine a_iadd dX6_explore_159 q35 ?_
                refine a_iload (k := 4) dX6_explore_160 rfl ?_
                refine a_iconst dX6_explore_162 (by decide) ?_
                refine a_aload (k := 6) dX6_explore_163 rfl ?_
                obtain ⟨q36, h⟩ := h
                refine g_X6_126 rfl dX6_explore_165 (fun _ => q36) ?_
                refine a_ishl dX6_explore_168 ?_
                refine a_ior dX6_explore_169 ?_
                refine k_X6_119 rfl dX6_explore_170 (Nat.le_of_ble_eq_true rfl) (fits_ex d) (Nat.le_of_ble_eq_true rfl) (Nat.le_of_ble_eq_true rfl) h (fun n38 μ39 h => ?_)
                refine a_goto (tgt := 223) dX6_explore_173 (by decide) ?_
                obtain ⟨q40, h⟩ := h
                refine b_iinc (L' := [(0, .inr v0), (1, .inl v1), (2, .inl v2), (3, .inl v3), (4, .inl v4), (5, .inl (v5 + 1)), (6, .inr x2), (7, .inl x12), (8, .inl x15), (9, .inl ((x15 + x12) + (μ17 x2 5)))]) (k := 5) [1, 2, 3, 4, 5, 0, 6, 7, 8, 9] dX6_explore_223 rfl q40 (Nat.le_of_ble_eq_true rfl) rfl ?_
                refine a_goto (tgt := 9) dX6_explore_226 (by decide) ?_
                refine a_sub [0, 1, 2, 3, 4, 5] rfl ?_
                exact h
            · replace h := h.2 c23
              refine a_goto (tgt := 223) dX6_explore_118 (by decide) ?_
              obtain ⟨q41, h⟩ := h
              refine b_iinc (L' := [(0, .inr v0), (1, .inl v1), (2, .inl v2), (3, .inl v3), (4, .inl v4), (5, .inl (v5 + 1)), (6, .inr x2), (7, .inl x12), (8, .inl x15), (9, .inl ((x15 + x12) + (μ17 x2 5)))]) (k := 5) [1, 2, 3, 4, 5, 0, 6, 7, 8, 9] dX6_explore_223 rfl q41 (Nat.le_of_ble_eq_true rfl) rfl ?_
              refine a_goto (tgt := 9) dX6_explore_226 (by decide) ?_
              refine a_sub [0, 1, 2, 3, 4, 5] rfl ?_
              exact h
        · replace h := h.2 c11
          refine a_goto (tgt := 223) dX6_explore_64 (by decide) ?_
          obtain ⟨q43, h⟩ := h
          refine b_iinc (L' := [(0, .inr v0), (1, .inl v1), (2, .inl v2), (3, .inl v3), (4, .inl v4), (5, .inl (v5 + 1)), (6, .inr x2)]) (k := 5) [1, 2, 3, 4, 5, 0, 6] dX6_explore_223 rfl q43 (Nat.le_of_ble_eq_true rfl) rfl ?_
          refine a_goto (tgt := 9) dX6_explore_226 (by decide) ?_
          refine a_sub [0, 1, 2, 3, 4, 5] rfl ?_
          exact h
theorem b_X6_explore_198 {G : GT} (hg : gx G = FX) {d : Nat} {n : Nat} {μ : Mem} {Q : Nat → Mem → Prop} {v0 v1 v2 v3 v4 v5 v9 : Int} (o0 : St v0 6 8) (h : (CV G Y_X8_cut [.inr 15, .inl 0] n (up μ v0 4 v9) (fun (n2 : Nat) (μ3 : Mem) => (CV G Y_X8_appendFrom [.inr 15, .inr 13] n2 μ3 (fun (n5 : Nat) (μ6 : Mem) => ((inR (v5 + 1)) ∧ (B_X6_explore_9 G d Q n5 μ6 v0 v1 v2 v3 v4 (v5 + 1)))))))) : B_X6_explore_198 G d Q n μ v0 v1 v2 v3 v4 v5 v9 := by
  show Wa G (Y_X6_explore (d + 1)) (ZV G (Y_X6_explore (d + 1)) Q) 0 0 n μ 198 [(0, .inr v0), (1, .inl v1), (2, .inl v2), (3, .inl v3), (4, .inl v4), (5, .inl v5), (9, .inl v9)] []
  refine a_aload_n (k := 0) dX6_explore_198 rfl rfl ?_
  refine a_iload (k := 6) dX6_explore_199 rfl ?_
  refine p_X6_30 rfl dX6_explore_201 (St_ho hg o0) (FX_put hg o0 rfl) ?_
  refine a_aload_n (k := 0) dX6_explore_204 rfl rfl ?_
  refine gs_X6_27 rfl dX6_explore_205 hg o0 ?_
  refine a_iconst dX6_explore_208 (by decide) ?_
  refine k_X6_72 rfl dX6_explore_209 (Nat.le_of_ble_eq_true rfl) (fits_exc rfl rfl) (Nat.le_of_ble_eq_true rfl) (Nat.le_of_ble_eq_true rfl) (St_ho hg St_15) h (fun n2 μ3 h => ?_)
  refine a_aload_n (k := 0) dX6_explore_212 rfl rfl ?_
  refine gs_X6_27 rfl dX6_explore_213 hg o0 ?_
  refine a_aload_n (k := 0) dX6_explore_216 rfl rfl ?_
  refine gs_X6_24 rfl dX6_explore_217 hg o0 ?_
  refine k_X6_144 rfl dX6_explore_220 (Nat.le_of_ble_eq_true rfl) (fits_exc rfl rfl) (Nat.le_of_ble_eq_true rfl) (Nat.le_of_ble_eq_true rfl) (St_ho hg St_15) h (fun n5 μ6 h => ?_)
  obtain ⟨q7, h⟩ := h
  refine b_iinc (L' := [(0, .inr v0), (1, .inl v1), (2, .inl v2), (3, .inl v3), (4, .inl v4), (5, .inl (v5 + 1)), (9, .inl v9)]) (k := 5) [1, 2, 3, 4, 5, 0, 6] dX6_explore_223 rfl q7 (Nat.le_of_ble_eq_true rfl) rfl ?_
  refine a_goto (tgt := 9) dX6_explore_226 (by decide) ?_
  refine a_sub [0, 1, 2, 3, 4, 5] rfl ?_
  exact h
abbrev B_X6_firstBegin_3 (G : GT) (Q : Int → Nat → Mem → Prop) (n : Nat) (μ : Mem) (v1 : Int) (v3 : Int) (v4 : Int) : Prop := Wa G Y_X6_firstBegin (ZI G Y_X6_firstBegin Q) 0 0 n μ 3 [(0, .inr 10), (1, .inl v1), (3, .inl v3), (4, .inl v4)] []
theorem m_X6_firstBegin {G : GT} (hg : gx G = FX) {n : Nat} {μ : Mem} {Q : Int → Nat → Mem → Prop} {v1 v2 v3 : Int}  (h : (B_X6_firstBegin_3 G Q n μ v1 v3 v2)) : CI G Y_X6_firstBegin [.inr 10, .inl v1, .inl v2, .inl v3] n μ Q := by
  refine e_I (by decide) (Nat.le_of_ble_eq_true rfl) ?_
  show Wa G Y_X6_firstBegin (ZI G Y_X6_firstBegin Q) 0 0 n μ 0 [(0, .inr 10), (1, .inl v1), (2, .inl v2), (3, .inl v3)] []
  refine a_iload_n (k := 2) dX6_firstBegin_0 rfl rfl ?_
  refine b_istore (L' := [(0, .inr 10), (1, .inl v1), (2, .inl v2), (3, .inl v3), (4, .inl v2)]) [1, 2, 3, 4, 0] dX6_firstBegin_1 (Nat.le_of_ble_eq_true rfl) rfl ?_
  refine a_sub [0, 1, 3, 4] rfl ?_
  exact h
theorem b_X6_firstBegin_3 {G : GT} (hg : gx G = FX) {n : Nat} {μ : Mem} {Q : Int → Nat → Mem → Prop} {v1 v3 v4 : Int}  (h : ((99 < v4 → (Q (-9) n μ)) ∧ (¬ (99 < v4) → (CI G Y_X8_at [.inr 11, .inl v1, .inl v4] n μ (fun (x2 : Int) (n3 : Nat) (μ4 : Mem) => ((x2 < v3 → ((inR (v4 + 1)) ∧ (B_X6_firstBegin_3 G Q n3 μ4 v1 v3 (v4 + 1)))) ∧ (¬ (x2 < v3) → (Q v4 n3 μ4)))))))) : B_X6_firstBegin_3 G Q n μ v1 v3 v4 := by
  show Wa G Y_X6_firstBegin (ZI G Y_X6_firstBegin Q) 0 0 n μ 3 [(0, .inr 10), (1, .inl v1), (3, .inl v3), (4, .inl v4)] []
  refine a_iload (k := 3) dX6_firstBegin_3 rfl ?_
  refine a_bipush dX6_firstBegin_5 (by decide) (by decide) ?_
  refine a_icmp_gt (tgt := 33) dX6_firstBegin_7 (by decide) (fun c1 => ?_) (fun c1 => ?_)
  · replace h := h.1 c1
    refine a_bipush dX6_firstBegin_33 (by decide) (by decide) ?_
    exact a_iret dX6_firstBegin_35 rfl (Nat.le_of_ble_eq_true rfl) (Nat.le_of_ble_eq_true rfl) h
  · replace h := h.2 c1
    refine a_aload_n (k := 0) dX6_firstBegin_10 rfl rfl ?_
    refine gs_X6_20 rfl dX6_firstBegin_11 hg St_10 ?_
    refine a_iload_n (k := 1) dX6_firstBegin_14 rfl rfl ?_
    refine a_iload (k := 3) dX6_firstBegin_15 rfl ?_
    refine k_X6_55 rfl dX6_firstBegin_17 (Nat.le_of_ble_eq_true rfl) rfl (Nat.le_of_ble_eq_true rfl) (Nat.le_of_ble_eq_true rfl) (St_ho hg St_11) h (fun x2 n3 μ4 h => ?_)
    refine a_iload_n (k := 2) dX6_firstBegin_20 rfl rfl ?_
    refine a_icmp_lt (tgt := 27) dX6_firstBegin_21 (by decide) (fun c5 => ?_) (fun c5 => ?_)
    · replace h := h.1 c5
      obtain ⟨q6, h⟩ := h
      refine b_iinc (L' := [(0, .inr 10), (1, .inl v1), (3, .inl v3), (4, .inl (v4 + 1))]) (k := 3) [1, 2, 3, 0] dX6_firstBegin_27 rfl q6 (Nat.le_of_ble_eq_true rfl) rfl ?_
      refine a_goto (tgt := 3) dX6_firstBegin_30 (by decide) ?_
      exact h
    · replace h := h.2 c5
      refine a_iload (k := 3) dX6_firstBegin_24 rfl ?_
      exact a_iret dX6_firstBegin_26 rfl (Nat.le_of_ble_eq_true rfl) (Nat.le_of_ble_eq_true rfl) h
theorem m_X6_setTrail {G : GT} (hg : gx G = FX) {n : Nat} {μ : Mem} {Q : Nat → Mem → Prop} {v1 v2 v3 v4 v5 : Int}  (h : (CV G Y_X8_cut [.inr 13, .inl v1] n μ (fun (n2 : Nat) (μ3 : Mem) => (CI G Y_X8_addRow [.inr 13] n2 μ3 (fun (x4 : Int) (n5 : Nat) (μ6 : Mem) => (CV G Y_X8_put [.inr 13, .inl x4, .inl 0, .inl v2] n5 μ6 (fun (n8 : Nat) (μ9 : Mem) => (CV G Y_X8_put [.inr 13, .inl x4, .inl 1, .inl v3] n8 μ9 (fun (n11 : Nat) (μ12 : Mem) => (CV G Y_X8_put [.inr 13, .inl x4, .inl 2, .inl v4] n11 μ12 (fun (n14 : Nat) (μ15 : Mem) => (CV G Y_X8_put [.inr 13, .inl x4, .inl 3, .inl v5] n14 μ15 (fun (n17 : Nat) (μ18 : Mem) => (Q n17 μ18)))))))))))))) : CV G Y_X6_setTrail [.inr 10, .inl v1, .inl v2, .inl v3, .inl v4, .inl v5] n μ Q := by
  refine e_V (by decide) (Nat.le_of_ble_eq_true rfl) ?_
  show Wa G Y_X6_setTrail (ZV G Y_X6_setTrail Q) 0 0 n μ 0 [(0, .inr 10), (1, .inl v1), (2, .inl v2), (3, .inl v3), (4, .inl v4), (5, .inl v5)] []
  refine a_aload_n (k := 0) dX6_setTrail_0 rfl rfl ?_
  refine gs_X6_24 rfl dX6_setTrail_1 hg St_10 ?_
  refine a_iload_n (k := 1) dX6_setTrail_4 rfl rfl ?_
  refine k_X6_72 rfl dX6_setTrail_5 (Nat.le_of_ble_eq_true rfl) rfl (Nat.le_of_ble_eq_true rfl) (Nat.le_of_ble_eq_true rfl) (St_ho hg St_13) h (fun n2 μ3 h => ?_)
  refine a_aload_n (k := 0) dX6_setTrail_8 rfl rfl ?_
  refine gs_X6_24 rfl dX6_setTrail_9 hg St_10 ?_
  refine k_X6_102 rfl dX6_setTrail_12 (Nat.le_of_ble_eq_true rfl) rfl (Nat.le_of_ble_eq_true rfl) (Nat.le_of_ble_eq_true rfl) (St_ho hg St_13) h (fun x4 n5 μ6 h => ?_)
  refine b_istore (L' := [(0, .inr 10), (1, .inl v1), (2, .inl v2), (3, .inl v3), (4, .inl v4), (5, .inl v5), (6, .inl x4)]) [1, 2, 3, 4, 5, 6, 0] dX6_setTrail_15 (Nat.le_of_ble_eq_true rfl) rfl ?_
  refine a_aload_n (k := 0) dX6_setTrail_17 rfl rfl ?_
  refine gs_X6_24 rfl dX6_setTrail_18 hg St_10 ?_
  refine a_iload (k := 6) dX6_setTrail_21 rfl ?_
  refine a_iconst dX6_setTrail_23 (by decide) ?_
  refine a_iload_n (k := 2) dX6_setTrail_24 rfl rfl ?_
  refine k_X6_106 rfl dX6_setTrail_25 (Nat.le_of_ble_eq_true rfl) rfl (Nat.le_of_ble_eq_true rfl) (Nat.le_of_ble_eq_true rfl) (St_ho hg St_13) h (fun n8 μ9 h => ?_)
  refine a_aload_n (k := 0) dX6_setTrail_28 rfl rfl ?_
  refine gs_X6_24 rfl dX6_setTrail_29 hg St_10 ?_
  refine a_iload (k := 6) dX6_setTrail_32 rfl ?_
  refine a_iconst dX6_setTrail_34 (by decide) ?_
  refine a_iload_n (k := 3) dX6_setTrail_35 rfl rfl ?_
  refine k_X6_106 rfl dX6_setTrail_36 (Nat.le_of_ble_eq_true rfl) rfl (Nat.le_of_ble_eq_true rfl) (Nat.le_of_ble_eq_true rfl) (St_ho hg St_13) h (fun n11 μ12 h => ?_)
  refine a_aload_n (k := 0) dX6_setTrail_39 rfl rfl ?_
  refine gs_X6_24 rfl dX6_setTrail_40 hg St_10 ?_
  refine a_iload (k := 6) dX6_setTrail_43 rfl ?_
  refine a_iconst dX6_setTrail_45 (by decide) ?_
  refine a_iload (k := 4) dX6_setTrail_46 rfl ?_
  refine k_X6_106 rfl dX6_setTrail_48 (Nat.le_of_ble_eq_true rfl) rfl (Nat.le_of_ble_eq_true rfl) (Nat.le_of_ble_eq_true rfl) (St_ho hg St_13) h (fun n14 μ15 h => ?_)
  refine a_aload_n (k := 0) dX6_setTrail_51 rfl rfl ?_
  refine gs_X6_24 rfl dX6_setTrail_52 hg St_10 ?_
  refine a_iload (k := 6) dX6_setTrail_55 rfl ?_
  refine a_iconst dX6_setTrail_57 (by decide) ?_
  refine a_iload (k := 5) dX6_setTrail_58 rfl ?_
  refine k_X6_106 rfl dX6_setTrail_60 (Nat.le_of_ble_eq_true rfl) rfl (Nat.le_of_ble_eq_true rfl) (Nat.le_of_ble_eq_true rfl) (St_ho hg St_13) h (fun n17 μ18 h => ?_)
  exact a_ret dX6_setTrail_63 rfl (Nat.le_of_ble_eq_true rfl) (Nat.le_of_ble_eq_true rfl) h
abbrev B_X5_planAll_5 (G : GT) (Q : Nat → Mem → Prop) (n : Nat) (μ : Mem) (v1 : Int) (v3 : Int) (v4 : Int) : Prop := Wa G Y_X5_planAll (ZV G Y_X5_planAll Q) 0 0 n μ 5 [(0, .inr 17), (1, .inr v1), (3, .inl v3), (4, .inl v4)] []
theorem m_X5_planAll {G : GT} (hg : gx G = FX) {n : Nat} {μ : Mem} {Q : Nat → Mem → Prop} {v1 v2 : Int} (o1 : St v1 7 5) (h : (B_X5_planAll_5 G Q n μ v1 v2 0)) : CV G Y_X5_planAll [.inr 17, .inr v1, .inl v2] n μ Q := by
  refine e_V (by decide) (Nat.le_of_ble_eq_true rfl) ?_
  show Wa G Y_X5_planAll (ZV G Y_X5_planAll Q) 0 0 n μ 0 [(0, .inr 17), (1, .inr v1), (2, .inl v2)] []
  refine a_iload_n (k := 2) dX5_planAll_0 rfl rfl ?_
  refine b_istore_n (L' := [(0, .inr 17), (1, .inr v1), (2, .inl v2), (3, .inl v2)]) [1, 2, 3, 0] dX5_planAll_1 rfl (Nat.le_of_ble_eq_true rfl) rfl ?_
  refine a_iconst dX5_planAll_2 (by decide) ?_
  refine b_istore (L' := [(0, .inr 17), (1, .inr v1), (2, .inl v2), (3, .inl v2), (4, .inl 0)]) [1, 2, 3, 4, 0] dX5_planAll_3 (Nat.le_of_ble_eq_true rfl) rfl ?_
  refine a_sub [0, 1, 3, 4] rfl ?_
  exact h
theorem b_X5_planAll_5 {G : GT} (hg : gx G = FX) {n : Nat} {μ : Mem} {Q : Nat → Mem → Prop} {v1 v3 v4 : Int} (o1 : St v1 7 5) (h : ((8 ≤ v4 → (Q n μ)) ∧ (¬ (8 ≤ v4) → ((v3 = 0 → (Q n μ)) ∧ (¬ (v3 = 0) → (CI G Y_X5_firstOf [.inr 17, .inr v1, .inl v3] n μ (fun (x3 : Int) (n4 : Nat) (μ5 : Mem) => (CI G Y_X5_planOne [.inr 17, .inr v1, .inl x3] n4 μ5 (fun (x6 : Int) (n7 : Nat) (μ8 : Mem) => ((x6 = 0 → ((inR (v4 + 1)) ∧ (B_X5_planAll_5 G Q n7 μ8 v1 (iAnd v3 (iXor (iShl 1 x3) (-1))) (v4 + 1)))) ∧ (¬ (x6 = 0) → (CI G Y_X5_pushOut [.inr 17, .inr v1, .inl x3] n7 μ8 (fun (x11 : Int) (n12 : Nat) (μ13 : Mem) => ((inR (v4 + 1)) ∧ (B_X5_planAll_5 G Q n12 μ13 v1 (iOr (iAnd v3 (iXor (iShl 1 x3) (-1))) x11) (v4 + 1)))))))))))))))) : B_X5_planAll_5 G Q n μ v1 v3 v4 := by
  show Wa G Y_X5_planAll (ZV G Y_X5_planAll Q) 0 0 n μ 5 [(0, .inr 17), (1, .inr v1), (3, .inl v3), (4, .inl v4)] []
  refine a_iload (k := 3) dX5_planAll_5 rfl ?_
  refine a_bipush dX5_planAll_7 (by decide) (by decide) ?_
  refine a_icmp_ge (tgt := 59) dX5_planAll_9 (by decide) (fun c1 => ?_) (fun c1 => ?_)
  · replace h := h.1 c1
    exact a_ret dX5_planAll_59 rfl (Nat.le_of_ble_eq_true rfl) (Nat.le_of_ble_eq_true rfl) h
  · replace h := h.2 c1
    refine a_iload_n (k := 2) dX5_planAll_12 rfl rfl ?_
    refine a_if_eq (tgt := 59) dX5_planAll_13 (by decide) (fun c2 => ?_) (fun c2 => ?_)
    · replace h := h.1 c2
      exact a_ret dX5_planAll_59 rfl (Nat.le_of_ble_eq_true rfl) (Nat.le_of_ble_eq_true rfl) h
    · replace h := h.2 c2
      refine a_aload_n (k := 0) dX5_planAll_16 rfl rfl ?_
      refine a_aload_n (k := 1) dX5_planAll_17 rfl rfl ?_
      refine a_iload_n (k := 2) dX5_planAll_18 rfl rfl ?_
      refine k_X5_15 rfl dX5_planAll_19 (Nat.le_of_ble_eq_true rfl) rfl (Nat.le_of_ble_eq_true rfl) (Nat.le_of_ble_eq_true rfl) (St_ho hg St_17) h (fun x3 n4 μ5 h => ?_)
      refine b_istore (L' := [(0, .inr 17), (1, .inr v1), (3, .inl v3), (4, .inl v4), (5, .inl x3)]) [1, 2, 3, 4, 0] dX5_planAll_22 (Nat.le_of_ble_eq_true rfl) rfl ?_
      refine a_iload_n (k := 2) dX5_planAll_24 rfl rfl ?_
      refine a_iconst dX5_planAll_25 (by decide) ?_
      refine a_iload (k := 4) dX5_planAll_26 rfl ?_
      refine a_ishl dX5_planAll_28 ?_
      refine a_iconst dX5_planAll_29 (by decide) ?_
      refine a_ixor dX5_planAll_30 ?_
      refine a_iand dX5_planAll_31 ?_
      refine b_istore_n (L' := [(0, .inr 17), (1, .inr v1), (3, .inl (iAnd v3 (iXor (iShl 1 x3) (-1)))), (4, .inl v4), (5, .inl x3)]) [1, 2, 0, 3, 4] dX5_planAll_32 rfl (Nat.le_of_ble_eq_true rfl) rfl ?_
      refine a_aload_n (k := 0) dX5_planAll_33 rfl rfl ?_
      refine a_aload_n (k := 1) dX5_planAll_34 rfl rfl ?_
      refine a_iload (k := 4) dX5_planAll_35 rfl ?_
      refine k_X5_19 rfl dX5_planAll_37 (Nat.le_of_ble_eq_true rfl) rfl (Nat.le_of_ble_eq_true rfl) (Nat.le_of_ble_eq_true rfl) (St_ho hg St_17) h (fun x6 n7 μ8 h => ?_)
      refine a_if_eq (tgt := 53) dX5_planAll_40 (by decide) (fun c9 => ?_) (fun c9 => ?_)
      · replace h := h.1 c9
        obtain ⟨q10, h⟩ := h
        refine b_iinc (L' := [(0, .inr 17), (1, .inr v1), (3, .inl (iAnd v3 (iXor (iShl 1 x3) (-1)))), (4, .inl (v4 + 1)), (5, .inl x3)]) (k := 3) [1, 2, 3, 0, 4] dX5_planAll_53 rfl q10 (Nat.le_of_ble_eq_true rfl) rfl ?_
        refine a_goto (tgt := 5) dX5_planAll_56 (by decide) ?_
        refine a_sub [0, 1, 2, 3] rfl ?_
        exact h
      · replace h := h.2 c9
        refine a_iload_n (k := 2) dX5_planAll_43 rfl rfl ?_
        refine a_aload_n (k := 0) dX5_planAll_44 rfl rfl ?_
        refine a_aload_n (k := 1) dX5_planAll_45 rfl rfl ?_
        refine a_iload (k := 4) dX5_planAll_46 rfl ?_
        refine k_X5_23 rfl dX5_planAll_48 (Nat.le_of_ble_eq_true rfl) rfl (Nat.le_of_ble_eq_true rfl) (Nat.le_of_ble_eq_true rfl) (St_ho hg St_17) h (fun x11 n12 μ13 h => ?_)
        refine a_ior dX5_planAll_51 ?_
        refine b_istore_n (L' := [(0, .inr 17), (1, .inr v1), (3, .inl (iOr (iAnd v3 (iXor (iShl 1 x3) (-1))) x11)), (4, .inl v4), (5, .inl x3)]) [1, 2, 0, 3, 4] dX5_planAll_52 rfl (Nat.le_of_ble_eq_true rfl) rfl ?_
        obtain ⟨q14, h⟩ := h
        refine b_iinc (L' := [(0, .inr 17), (1, .inr v1), (3, .inl (iOr (iAnd v3 (iXor (iShl 1 x3) (-1))) x11)), (4, .inl (v4 + 1)), (5, .inl x3)]) (k := 3) [1, 2, 3, 0, 4] dX5_planAll_53 rfl q14 (Nat.le_of_ble_eq_true rfl) rfl ?_
        refine a_goto (tgt := 5) dX5_planAll_56 (by decide) ?_
        refine a_sub [0, 1, 2, 3] rfl ?_
        exact h
abbrev B_X5_firstOf_8 (G : GT) (Q : Int → Nat → Mem → Prop) (n : Nat) (μ : Mem) (v1 : Int) (v2 : Int) (v3 : Int) (v4 : Int) (v5 : Int) : Prop := Wa G Y_X5_firstOf (ZI G Y_X5_firstOf Q) 0 0 n μ 8 [(1, .inr v1), (2, .inl v2), (3, .inl v3), (4, .inl v4), (5, .inl v5)] []
theorem m_X5_firstOf {G : GT} (hg : gx G = FX) {n : Nat} {μ : Mem} {Q : Int → Nat → Mem → Prop} {v1 v2 : Int} (o1 : St v1 7 5) (h : (B_X5_firstOf_8 G Q n μ v1 v2 0 (-1) 0)) : CI G Y_X5_firstOf [.inr 17, .inr v1, .inl v2] n μ Q := by
  refine e_I (by decide) (Nat.le_of_ble_eq_true rfl) ?_
  show Wa G Y_X5_firstOf (ZI G Y_X5_firstOf Q) 0 0 n μ 0 [(0, .inr 17), (1, .inr v1), (2, .inl v2)] []
  refine a_iconst dX5_firstOf_0 (by decide) ?_
  refine b_istore_n (L' := [(0, .inr 17), (1, .inr v1), (2, .inl v2), (3, .inl 0)]) [1, 2, 3, 0] dX5_firstOf_1 rfl (Nat.le_of_ble_eq_true rfl) rfl ?_
  refine a_iconst dX5_firstOf_2 (by decide) ?_
  refine b_istore (L' := [(0, .inr 17), (1, .inr v1), (2, .inl v2), (3, .inl 0), (4, .inl (-1))]) [1, 2, 3, 4, 0] dX5_firstOf_3 (Nat.le_of_ble_eq_true rfl) rfl ?_
  refine a_iconst dX5_firstOf_5 (by decide) ?_
  refine b_istore (L' := [(0, .inr 17), (1, .inr v1), (2, .inl v2), (3, .inl 0), (4, .inl (-1)), (5, .inl 0)]) [1, 2, 3, 4, 5, 0] dX5_firstOf_6 (Nat.le_of_ble_eq_true rfl) rfl ?_
  refine a_sub [1, 2, 3, 4, 5] rfl ?_
  exact h
theorem b_X5_firstOf_8 {G : GT} (hg : gx G = FX) {n : Nat} {μ : Mem} {Q : Int → Nat → Mem → Prop} {v1 v2 v3 v4 v5 : Int} (o1 : St v1 7 5) (h : (((μ v1 2) ≤ v5 → (Q v3 n μ)) ∧ (¬ ((μ v1 2) ≤ v5) → (CR G Y_X7_bundleAt [.inr v1, .inl v5] n μ (fun (x2 : Int) (n3 : Nat) (μ4 : Mem) => (St x2 0 9) ∧ ((¬ ((iAnd (iShr v2 v5) 1) = 1) → ((inR (v5 + 1)) ∧ (B_X5_firstOf_8 G Q n3 μ4 v1 v2 v3 v4 (v5 + 1)))) ∧ ((iAnd (iShr v2 v5) 1) = 1 → (((μ4 x2 6) ≤ v4 → ((inR (v5 + 1)) ∧ (B_X5_firstOf_8 G Q n3 μ4 v1 v2 v3 v4 (v5 + 1)))) ∧ (¬ ((μ4 x2 6) ≤ v4) → ((inR (v5 + 1)) ∧ (B_X5_firstOf_8 G Q n3 μ4 v1 v2 v5 (μ4 x2 6) (v5 + 1)))))))))))) : B_X5_firstOf_8 G Q n μ v1 v2 v3 v4 v5 := by
  show Wa G Y_X5_firstOf (ZI G Y_X5_firstOf Q) 0 0 n μ 8 [(1, .inr v1), (2, .inl v2), (3, .inl v3), (4, .inl v4), (5, .inl v5)] []
  refine a_iload (k := 4) dX5_firstOf_8 rfl ?_
  refine a_aload_n (k := 0) dX5_firstOf_10 rfl rfl ?_
  refine g_X5_26 rfl dX5_firstOf_11 (St_ho hg o1) ?_
  refine a_icmp_ge (tgt := 58) dX5_firstOf_14 (by decide) (fun c1 => ?_) (fun c1 => ?_)
  · replace h := h.1 c1
    refine a_iload_n (k := 2) dX5_firstOf_58 rfl rfl ?_
    exact a_iret dX5_firstOf_59 rfl (Nat.le_of_ble_eq_true rfl) (Nat.le_of_ble_eq_true rfl) h
  · replace h := h.2 c1
    refine a_aload_n (k := 0) dX5_firstOf_17 rfl rfl ?_
    refine a_iload (k := 4) dX5_firstOf_18 rfl ?_
    refine k_X5_32 rfl dX5_firstOf_20 (Nat.le_of_ble_eq_true rfl) rfl (Nat.le_of_ble_eq_true rfl) (Nat.le_of_ble_eq_true rfl) (St_ho hg o1) h (fun x2 n3 μ4 _ h => ?_)
    obtain ⟨q5, h⟩ := h
    refine g_X5_36 rfl dX5_firstOf_23 (St_ho hg q5) ?_
    refine b_istore (L' := [(1, .inr v1), (2, .inl v2), (3, .inl v3), (4, .inl v4), (5, .inl v5), (6, .inl (μ4 x2 6))]) [1, 2, 3, 4, 5, 0] dX5_firstOf_26 (Nat.le_of_ble_eq_true rfl) rfl ?_
    refine a_iload_n (k := 1) dX5_firstOf_28 rfl rfl ?_
    refine a_iload (k := 4) dX5_firstOf_29 rfl ?_
    refine a_ishr dX5_firstOf_31 ?_
    refine a_iconst dX5_firstOf_32 (by decide) ?_
    refine a_iand dX5_firstOf_33 ?_
    refine a_iconst dX5_firstOf_34 (by decide) ?_
    refine a_icmp_ne (tgt := 52) dX5_firstOf_35 (by decide) (fun c6 => ?_) (fun c6 => ?_)
    · replace h := h.1 c6
      obtain ⟨q7, h⟩ := h
      refine b_iinc (L' := [(1, .inr v1), (2, .inl v2), (3, .inl v3), (4, .inl v4), (5, .inl (v5 + 1)), (6, .inl (μ4 x2 6))]) (k := 4) [1, 2, 3, 4, 0, 5] dX5_firstOf_52 rfl q7 (Nat.le_of_ble_eq_true rfl) rfl ?_
      refine a_goto (tgt := 8) dX5_firstOf_55 (by decide) ?_
      refine a_sub [0, 1, 2, 3, 4] rfl ?_
      exact h
    · replace h := h.2 c6
      refine a_iload (k := 5) dX5_firstOf_38 rfl ?_
      refine a_iload (k := 3) dX5_firstOf_40 rfl ?_
      refine a_icmp_le (tgt := 52) dX5_firstOf_42 (by decide) (fun c8 => ?_) (fun c8 => ?_)
      · replace h := h.1 c8
        obtain ⟨q9, h⟩ := h
        refine b_iinc (L' := [(1, .inr v1), (2, .inl v2), (3, .inl v3), (4, .inl v4), (5, .inl (v5 + 1)), (6, .inl (μ4 x2 6))]) (k := 4) [1, 2, 3, 4, 0, 5] dX5_firstOf_52 rfl q9 (Nat.le_of_ble_eq_true rfl) rfl ?_
        refine a_goto (tgt := 8) dX5_firstOf_55 (by decide) ?_
        refine a_sub [0, 1, 2, 3, 4] rfl ?_
        exact h
      · replace h := h.2 c8
        refine a_iload (k := 5) dX5_firstOf_45 rfl ?_
        refine b_istore (L' := [(1, .inr v1), (2, .inl v2), (3, .inl v3), (4, .inl (μ4 x2 6)), (5, .inl v5), (6, .inl (μ4 x2 6))]) [1, 2, 3, 0, 4, 5] dX5_firstOf_47 (Nat.le_of_ble_eq_true rfl) rfl ?_
        refine a_iload (k := 4) dX5_firstOf_49 rfl ?_
        refine b_istore_n (L' := [(1, .inr v1), (2, .inl v2), (3, .inl v5), (4, .inl (μ4 x2 6)), (5, .inl v5), (6, .inl (μ4 x2 6))]) [1, 2, 0, 3, 4, 5] dX5_firstOf_51 rfl (Nat.le_of_ble_eq_true rfl) rfl ?_
        obtain ⟨q10, h⟩ := h
        refine b_iinc (L' := [(1, .inr v1), (2, .inl v2), (3, .inl v5), (4, .inl (μ4 x2 6)), (5, .inl (v5 + 1)), (6, .inl (μ4 x2 6))]) (k := 4) [1, 2, 3, 4, 0, 5] dX5_firstOf_52 rfl q10 (Nat.le_of_ble_eq_true rfl) rfl ?_
        refine a_goto (tgt := 8) dX5_firstOf_55 (by decide) ?_
        refine a_sub [0, 1, 2, 3, 4] rfl ?_
        exact h
abbrev B_X5_planOne_52 (G : GT) (Q : Int → Nat → Mem → Prop) (n : Nat) (μ : Mem) (v1 : Int) (v3 : Int) (v4 : Int) (u0 : Int) : Prop := Wa G Y_X5_planOne (ZI G Y_X5_planOne Q) 0 0 n μ 52 [(0, .inr 17), (1, .inr v1), (3, .inr v3), (4, .inl v4)] [.inl u0]
abbrev B_X5_planOne_104 (G : GT) (Q : Int → Nat → Mem → Prop) (n : Nat) (μ : Mem) (v3 : Int) (v6 : Int) : Prop := Wa G Y_X5_planOne (ZI G Y_X5_planOne Q) 0 0 n μ 104 [(3, .inr v3), (6, .inl v6)] []
theorem m_X5_planOne {G : GT} (hg : gx G = FX) {n : Nat} {μ : Mem} {Q : Int → Nat → Mem → Prop} {v1 v2 : Int} (o1 : St v1 7 5) (h : (CR G Y_X7_bundleAt [.inr v1, .inl v2] n μ (fun (x1 : Int) (n2 : Nat) (μ3 : Mem) => (St x1 0 9) ∧ (CV G Y_X0_giveUpHopsToCome [.inr x1, .inl (μ3 v1 3)] n2 μ3 (fun (n6 : Nat) (μ7 : Mem) => (CI G Y_X0_lastNode [.inr x1] n6 μ7 (fun (x8 : Int) (n9 : Nat) (μ10 : Mem) => ((¬ (x8 = (μ10 x1 3)) → ((¬ ((μ10 (x1 + 1) 2) = 0) → (CI G Y_X0_lastThere [.inr x1] n9 μ10 (fun (x13 : Int) (n14 : Nat) (μ15 : Mem) => (B_X5_planOne_52 G Q n14 μ15 v1 x1 x8 x13)))) ∧ ((μ10 (x1 + 1) 2) = 0 → (B_X5_planOne_52 G Q n9 μ10 v1 x1 x8 (μ10 v1 3))))) ∧ (x8 = (μ10 x1 3) → (Q 0 n9 μ10)))))))))) : CI G Y_X5_planOne [.inr 17, .inr v1, .inl v2] n μ Q := by
  refine e_I (by decide) (Nat.le_of_ble_eq_true rfl) ?_
  show Wa G Y_X5_planOne (ZI G Y_X5_planOne Q) 0 0 n μ 0 [(0, .inr 17), (1, .inr v1), (2, .inl v2)] []
  refine a_aload_n (k := 1) dX5_planOne_0 rfl rfl ?_
  refine a_iload_n (k := 2) dX5_planOne_1 rfl rfl ?_
  refine k_X5_32 rfl dX5_planOne_2 (Nat.le_of_ble_eq_true rfl) rfl (Nat.le_of_ble_eq_true rfl) (Nat.le_of_ble_eq_true rfl) (St_ho hg o1) h (fun x1 n2 μ3 _ h => ?_)
  obtain ⟨q4, h⟩ := h
  refine b_astore_n (L' := [(0, .inr 17), (1, .inr v1), (2, .inl v2), (3, .inr x1)]) [1, 2, 3, 0] dX5_planOne_5 rfl (Nat.le_of_ble_eq_true rfl) rfl ?_
  refine a_aload_n (k := 3) dX5_planOne_6 rfl rfl ?_
  refine a_aload_n (k := 1) dX5_planOne_7 rfl rfl ?_
  refine g_X5_41 rfl dX5_planOne_8 (St_ho hg o1) ?_
  refine k_X5_44 rfl dX5_planOne_11 (Nat.le_of_ble_eq_true rfl) rfl (Nat.le_of_ble_eq_true rfl) (Nat.le_of_ble_eq_true rfl) (St_ho hg q4) h (fun n6 μ7 h => ?_)
  refine a_aload_n (k := 3) dX5_planOne_14 rfl rfl ?_
  refine k_X5_48 rfl dX5_planOne_15 (Nat.le_of_ble_eq_true rfl) rfl (Nat.le_of_ble_eq_true rfl) (Nat.le_of_ble_eq_true rfl) (St_ho hg q4) h (fun x8 n9 μ10 h => ?_)
  refine b_istore (L' := [(0, .inr 17), (1, .inr v1), (2, .inl v2), (3, .inr x1), (4, .inl x8)]) [1, 2, 3, 4, 0] dX5_planOne_18 (Nat.le_of_ble_eq_true rfl) rfl ?_
  refine a_iload (k := 4) dX5_planOne_20 rfl ?_
  refine a_aload_n (k := 3) dX5_planOne_22 rfl rfl ?_
  refine g_X5_52 rfl dX5_planOne_23 (St_ho hg q4) ?_
  refine a_icmp_ne (tgt := 31) dX5_planOne_26 (by decide) (fun c11 => ?_) (fun c11 => ?_)
  · replace h := h.1 c11
    refine a_aload_n (k := 3) dX5_planOne_31 rfl rfl ?_
    refine gs_X5_55 rfl dX5_planOne_32 hg q4 ?_
    refine g_X5_59 rfl dX5_planOne_35 (St_ho hg (st_0_1 q4)) ?_
    refine a_if_ne (tgt := 48) dX5_planOne_38 (by decide) (fun c12 => ?_) (fun c12 => ?_)
    · replace h := h.1 c12
      refine a_aload_n (k := 3) dX5_planOne_48 rfl rfl ?_
      refine k_X5_64 rfl dX5_planOne_49 (Nat.le_of_ble_eq_true rfl) rfl (Nat.le_of_ble_eq_true rfl) (Nat.le_of_ble_eq_true rfl) (St_ho hg q4) h (fun x13 n14 μ15 h => ?_)
      refine a_sub [0, 1, 3, 4] rfl ?_
      exact h
    · replace h := h.2 c12
      refine a_aload_n (k := 1) dX5_planOne_41 rfl rfl ?_
      refine g_X5_41 rfl dX5_planOne_42 (St_ho hg o1) ?_
      refine a_goto (tgt := 52) dX5_planOne_45 (by decide) ?_
      refine a_sub [0, 1, 3, 4] rfl ?_
      exact h
  · replace h := h.2 c11
    refine a_iconst dX5_planOne_29 (by decide) ?_
    exact a_zret dX5_planOne_30 rfl (Nat.le_of_ble_eq_true rfl) (Nat.le_of_ble_eq_true rfl) (by decide) h
theorem b_X5_planOne_52 {G : GT} (hg : gx G = FX) {n : Nat} {μ : Mem} {Q : Int → Nat → Mem → Prop} {v1 v3 v4 u0 : Int} (o1 : St v1 7 5) (o3 : St v3 0 9) (h : (CV G Y_X6_lookAt [.inr 10, .inr v1, .inl (μ v3 6)] n μ (fun (n2 : Nat) (μ3 : Mem) => (CI G Y_X6_seek [.inr 10, .inl v4, .inl u0, .inl (μ3 v3 3), .inl (μ3 v3 4), .inl (-1)] n2 μ3 (fun (x4 : Int) (n5 : Nat) (μ6 : Mem) => ((x4 = (-9) → (B_X5_planOne_104 G Q n5 μ6 v3 x4)) ∧ (¬ (x4 = (-9)) → ((x4 ≤ (μ6 v3 5) → (CV G Y_X8_appendFrom [.inr (v3 + 1), .inr 15] n5 μ6 (fun (n10 : Nat) (μ11 : Mem) => (Q 1 n10 μ11)))) ∧ (¬ (x4 ≤ (μ6 v3 5)) → (B_X5_planOne_104 G Q n5 μ6 v3 x4)))))))))) : B_X5_planOne_52 G Q n μ v1 v3 v4 u0 := by
  show Wa G Y_X5_planOne (ZI G Y_X5_planOne Q) 0 0 n μ 52 [(0, .inr 17), (1, .inr v1), (3, .inr v3), (4, .inl v4)] [.inl u0]
  refine b_istore (L' := [(0, .inr 17), (1, .inr v1), (3, .inr v3), (4, .inl v4), (5, .inl u0)]) [1, 2, 3, 4, 0] dX5_planOne_52 (Nat.le_of_ble_eq_true rfl) rfl ?_
  refine a_aload_n (k := 0) dX5_planOne_54 rfl rfl ?_
  refine gs_X5_9 rfl dX5_planOne_55 hg St_17 ?_
  refine a_aload_n (k := 1) dX5_planOne_58 rfl rfl ?_
  refine a_aload_n (k := 2) dX5_planOne_59 rfl rfl ?_
  refine g_X5_36 rfl dX5_planOne_60 (St_ho hg o3) ?_
  refine k_X5_67 rfl dX5_planOne_63 (Nat.le_of_ble_eq_true rfl) rfl (Nat.le_of_ble_eq_true rfl) (Nat.le_of_ble_eq_true rfl) (St_ho hg St_10) h (fun n2 μ3 h => ?_)
  refine a_aload_n (k := 0) dX5_planOne_66 rfl rfl ?_
  refine gs_X5_9 rfl dX5_planOne_67 hg St_17 ?_
  refine a_iload (k := 3) dX5_planOne_70 rfl ?_
  refine a_iload (k := 4) dX5_planOne_72 rfl ?_
  refine a_aload_n (k := 2) dX5_planOne_74 rfl rfl ?_
  refine g_X5_52 rfl dX5_planOne_75 (St_ho hg o3) ?_
  refine a_aload_n (k := 2) dX5_planOne_78 rfl rfl ?_
  refine g_X5_73 rfl dX5_planOne_79 (St_ho hg o3) ?_
  refine a_iconst dX5_planOne_82 (by decide) ?_
  refine k_X5_76 rfl dX5_planOne_83 (Nat.le_of_ble_eq_true rfl) rfl (Nat.le_of_ble_eq_true rfl) (Nat.le_of_ble_eq_true rfl) (St_ho hg St_10) h (fun x4 n5 μ6 h => ?_)
  refine b_istore (L' := [(0, .inr 17), (1, .inr v1), (3, .inr v3), (4, .inl v4), (5, .inl u0), (6, .inl x4)]) [1, 2, 3, 4, 5, 0] dX5_planOne_86 (Nat.le_of_ble_eq_true rfl) rfl ?_
  refine a_iload (k := 5) dX5_planOne_88 rfl ?_
  refine a_bipush dX5_planOne_90 (by decide) (by decide) ?_
  refine a_icmp_eq (tgt := 104) dX5_planOne_92 (by decide) (fun c7 => ?_) (fun c7 => ?_)
  · replace h := h.1 c7
    refine a_sub [2, 5] rfl ?_
    exact h
  · replace h := h.2 c7
    refine a_iload (k := 5) dX5_planOne_95 rfl ?_
    refine a_aload_n (k := 2) dX5_planOne_97 rfl rfl ?_
    refine g_X5_80 rfl dX5_planOne_98 (St_ho hg o3) ?_
    refine a_icmp_le (tgt := 122) dX5_planOne_101 (by decide) (fun c8 => ?_) (fun c8 => ?_)
    · replace h := h.1 c8
      refine a_aload_n (k := 2) dX5_planOne_122 rfl rfl ?_
      refine gs_X5_55 rfl dX5_planOne_123 hg o3 ?_
      refine a_aload_n (k := 0) dX5_planOne_126 rfl rfl ?_
      refine gs_X5_9 rfl dX5_planOne_127 hg St_17 ?_
      refine gs_X5_86 rfl dX5_planOne_130 hg St_10 ?_
      refine k_X5_89 rfl dX5_planOne_133 (Nat.le_of_ble_eq_true rfl) rfl (Nat.le_of_ble_eq_true rfl) (Nat.le_of_ble_eq_true rfl) (St_ho hg (st_0_1 o3)) h (fun n10 μ11 h => ?_)
      refine a_iconst dX5_planOne_136 (by decide) ?_
      exact a_zret dX5_planOne_137 rfl (Nat.le_of_ble_eq_true rfl) (Nat.le_of_ble_eq_true rfl) (by decide) h
    · replace h := h.2 c8
      refine a_sub [2, 5] rfl ?_
      exact h
theorem b_X5_planOne_104 {G : GT} (hg : gx G = FX) {n : Nat} {μ : Mem} {Q : Int → Nat → Mem → Prop} {v3 v6 : Int} (o3 : St v3 0 9) (h : ((¬ (v6 = (-9)) → (Q 0 n (up μ v3 8 1))) ∧ (v6 = (-9) → (Q 0 n (up μ v3 8 0))))) : B_X5_planOne_104 G Q n μ v3 v6 := by
  show Wa G Y_X5_planOne (ZI G Y_X5_planOne Q) 0 0 n μ 104 [(3, .inr v3), (6, .inl v6)] []
  refine a_aload_n (k := 0) dX5_planOne_104 rfl rfl ?_
  refine a_iload (k := 1) dX5_planOne_105 rfl ?_
  refine a_bipush dX5_planOne_107 (by decide) (by decide) ?_
  refine a_icmp_ne (tgt := 116) dX5_planOne_109 (by decide) (fun c1 => ?_) (fun c1 => ?_)
  · replace h := h.1 c1
    refine a_iconst dX5_planOne_116 (by decide) ?_
    refine p_X5_83 rfl dX5_planOne_117 (St_ho hg o3) (FX_put hg o3 rfl) ?_
    refine a_iconst dX5_planOne_120 (by decide) ?_
    exact a_zret dX5_planOne_121 rfl (Nat.le_of_ble_eq_true rfl) (Nat.le_of_ble_eq_true rfl) (by decide) h
  · replace h := h.2 c1
    refine a_iconst dX5_planOne_112 (by decide) ?_
    refine a_goto (tgt := 117) dX5_planOne_113 (by decide) ?_
    refine p_X5_83 rfl dX5_planOne_117 (St_ho hg o3) (FX_put hg o3 rfl) ?_
    refine a_iconst dX5_planOne_120 (by decide) ?_
    exact a_zret dX5_planOne_121 rfl (Nat.le_of_ble_eq_true rfl) (Nat.le_of_ble_eq_true rfl) (by decide) h
abbrev B_X5_pushOut_12 (G : GT) (Q : Int → Nat → Mem → Prop) (n : Nat) (μ : Mem) (v1 : Int) (v3 : Int) (v4 : Int) (v5 : Int) : Prop := Wa G Y_X5_pushOut (ZI G Y_X5_pushOut Q) 0 0 n μ 12 [(1, .inr v1), (3, .inr v3), (4, .inl v4), (5, .inl v5)] []
theorem m_X5_pushOut {G : GT} (hg : gx G = FX) {n : Nat} {μ : Mem} {Q : Int → Nat → Mem → Prop} {v1 v2 : Int} (o1 : St v1 7 5) (h : (CR G Y_X7_bundleAt [.inr v1, .inl v2] n μ (fun (x1 : Int) (n2 : Nat) (μ3 : Mem) => (St x1 0 9) ∧ (B_X5_pushOut_12 G Q n2 μ3 v1 x1 0 0)))) : CI G Y_X5_pushOut [.inr 17, .inr v1, .inl v2] n μ Q := by
  refine e_I (by decide) (Nat.le_of_ble_eq_true rfl) ?_
  show Wa G Y_X5_pushOut (ZI G Y_X5_pushOut Q) 0 0 n μ 0 [(0, .inr 17), (1, .inr v1), (2, .inl v2)] []
  refine a_aload_n (k := 1) dX5_pushOut_0 rfl rfl ?_
  refine a_iload_n (k := 2) dX5_pushOut_1 rfl rfl ?_
  refine k_X5_32 rfl dX5_pushOut_2 (Nat.le_of_ble_eq_true rfl) rfl (Nat.le_of_ble_eq_true rfl) (Nat.le_of_ble_eq_true rfl) (St_ho hg o1) h (fun x1 n2 μ3 _ h => ?_)
  obtain ⟨q4, h⟩ := h
  refine b_astore_n (L' := [(0, .inr 17), (1, .inr v1), (2, .inl v2), (3, .inr x1)]) [1, 2, 3, 0] dX5_pushOut_5 rfl (Nat.le_of_ble_eq_true rfl) rfl ?_
  refine a_iconst dX5_pushOut_6 (by decide) ?_
  refine b_istore (L' := [(0, .inr 17), (1, .inr v1), (2, .inl v2), (3, .inr x1), (4, .inl 0)]) [1, 2, 3, 4, 0] dX5_pushOut_7 (Nat.le_of_ble_eq_true rfl) rfl ?_
  refine a_iconst dX5_pushOut_9 (by decide) ?_
  refine b_istore (L' := [(0, .inr 17), (1, .inr v1), (2, .inl v2), (3, .inr x1), (4, .inl 0), (5, .inl 0)]) [1, 2, 3, 4, 5, 0] dX5_pushOut_10 (Nat.le_of_ble_eq_true rfl) rfl ?_
  refine a_sub [1, 3, 4, 5] rfl ?_
  exact h
theorem b_X5_pushOut_12 {G : GT} (hg : gx G = FX) {n : Nat} {μ : Mem} {Q : Int → Nat → Mem → Prop} {v1 v3 v4 v5 : Int} (o1 : St v1 7 5) (o3 : St v3 0 9) (h : (((μ v1 2) ≤ v5 → (Q v4 n μ)) ∧ (¬ ((μ v1 2) ≤ v5) → (CR G Y_X7_bundleAt [.inr v1, .inl v5] n μ (fun (x2 : Int) (n3 : Nat) (μ4 : Mem) => (St x2 0 9) ∧ (((μ4 v3 6) ≤ (μ4 x2 6) → ((inR (v5 + 1)) ∧ (B_X5_pushOut_12 G Q n3 μ4 v1 v3 v4 (v5 + 1)))) ∧ (¬ ((μ4 v3 6) ≤ (μ4 x2 6)) → (CI G Y_X0_standsInTheWayOf [.inr x2, .inr v3, .inl (μ4 v1 3)] n3 μ4 (fun (x8 : Int) (n9 : Nat) (μ10 : Mem) => ((x8 = 0 → ((inR (v5 + 1)) ∧ (B_X5_pushOut_12 G Q n9 μ10 v1 v3 v4 (v5 + 1)))) ∧ (¬ (x8 = 0) → (CV G Y_X0_giveUpHopsToCome [.inr x2, .inl (μ10 v1 3)] n9 μ10 (fun (n14 : Nat) (μ15 : Mem) => ((inR (v5 + 1)) ∧ (B_X5_pushOut_12 G Q n14 μ15 v1 v3 (iOr v4 (iShl 1 v5)) (v5 + 1)))))))))))))))) : B_X5_pushOut_12 G Q n μ v1 v3 v4 v5 := by
  show Wa G Y_X5_pushOut (ZI G Y_X5_pushOut Q) 0 0 n μ 12 [(1, .inr v1), (3, .inr v3), (4, .inl v4), (5, .inl v5)] []
  refine a_iload (k := 3) dX5_pushOut_12 rfl ?_
  refine a_aload_n (k := 0) dX5_pushOut_14 rfl rfl ?_
  refine g_X5_26 rfl dX5_pushOut_15 (St_ho hg o1) ?_
  refine a_icmp_ge (tgt := 78) dX5_pushOut_18 (by decide) (fun c1 => ?_) (fun c1 => ?_)
  · replace h := h.1 c1
    refine a_iload (k := 2) dX5_pushOut_78 rfl ?_
    exact a_iret dX5_pushOut_80 rfl (Nat.le_of_ble_eq_true rfl) (Nat.le_of_ble_eq_true rfl) h
  · replace h := h.2 c1
    refine a_aload_n (k := 0) dX5_pushOut_21 rfl rfl ?_
    refine a_iload (k := 3) dX5_pushOut_22 rfl ?_
    refine k_X5_32 rfl dX5_pushOut_24 (Nat.le_of_ble_eq_true rfl) rfl (Nat.le_of_ble_eq_true rfl) (Nat.le_of_ble_eq_true rfl) (St_ho hg o1) h (fun x2 n3 μ4 _ h => ?_)
    obtain ⟨q5, h⟩ := h
    refine b_astore (L' := [(1, .inr v1), (3, .inr v3), (4, .inl v4), (5, .inl v5), (6, .inr x2)]) [1, 2, 3, 4, 0] dX5_pushOut_27 (Nat.le_of_ble_eq_true rfl) rfl ?_
    refine a_aload (k := 4) dX5_pushOut_29 rfl ?_
    refine g_X5_36 rfl dX5_pushOut_31 (St_ho hg q5) ?_
    refine a_aload_n (k := 1) dX5_pushOut_34 rfl rfl ?_
    refine g_X5_36 rfl dX5_pushOut_35 (St_ho hg o3) ?_
    refine a_icmp_ge (tgt := 72) dX5_pushOut_38 (by decide) (fun c6 => ?_) (fun c6 => ?_)
    · replace h := h.1 c6
      obtain ⟨q7, h⟩ := h
      refine b_iinc (L' := [(1, .inr v1), (3, .inr v3), (4, .inl v4), (5, .inl (v5 + 1)), (6, .inr x2)]) (k := 3) [1, 2, 3, 0, 4] dX5_pushOut_72 rfl q7 (Nat.le_of_ble_eq_true rfl) rfl ?_
      refine a_goto (tgt := 12) dX5_pushOut_75 (by decide) ?_
      refine a_sub [0, 1, 2, 3] rfl ?_
      exact h
    · replace h := h.2 c6
      refine a_aload (k := 4) dX5_pushOut_41 rfl ?_
      refine a_aload_n (k := 1) dX5_pushOut_43 rfl rfl ?_
      refine a_aload_n (k := 0) dX5_pushOut_44 rfl rfl ?_
      refine g_X5_41 rfl dX5_pushOut_45 (St_ho hg o1) ?_
      refine k_X5_93 rfl dX5_pushOut_48 (Nat.le_of_ble_eq_true rfl) rfl (Nat.le_of_ble_eq_true rfl) (Nat.le_of_ble_eq_true rfl) (St_ho hg q5) h (fun x8 n9 μ10 h => ?_)
      refine a_if_eq (tgt := 72) dX5_pushOut_51 (by decide) (fun c11 => ?_) (fun c11 => ?_)
      · replace h := h.1 c11
        obtain ⟨q12, h⟩ := h
        refine b_iinc (L' := [(1, .inr v1), (3, .inr v3), (4, .inl v4), (5, .inl (v5 + 1)), (6, .inr x2)]) (k := 3) [1, 2, 3, 0, 4] dX5_pushOut_72 rfl q12 (Nat.le_of_ble_eq_true rfl) rfl ?_
        refine a_goto (tgt := 12) dX5_pushOut_75 (by decide) ?_
        refine a_sub [0, 1, 2, 3] rfl ?_
        exact h
      · replace h := h.2 c11
        refine a_aload (k := 4) dX5_pushOut_54 rfl ?_
        refine a_aload_n (k := 0) dX5_pushOut_56 rfl rfl ?_
        refine g_X5_41 rfl dX5_pushOut_57 (St_ho hg o1) ?_
        refine k_X5_44 rfl dX5_pushOut_60 (Nat.le_of_ble_eq_true rfl) rfl (Nat.le_of_ble_eq_true rfl) (Nat.le_of_ble_eq_true rfl) (St_ho hg q5) h (fun n14 μ15 h => ?_)
        refine a_iload (k := 2) dX5_pushOut_63 rfl ?_
        refine a_iconst dX5_pushOut_65 (by decide) ?_
        refine a_iload (k := 3) dX5_pushOut_66 rfl ?_
        refine a_ishl dX5_pushOut_68 ?_
        refine a_ior dX5_pushOut_69 ?_
        refine b_istore (L' := [(1, .inr v1), (3, .inr v3), (4, .inl (iOr v4 (iShl 1 v5))), (5, .inl v5), (6, .inr x2)]) [1, 2, 0, 3, 4] dX5_pushOut_70 (Nat.le_of_ble_eq_true rfl) rfl ?_
        obtain ⟨q16, h⟩ := h
        refine b_iinc (L' := [(1, .inr v1), (3, .inr v3), (4, .inl (iOr v4 (iShl 1 v5))), (5, .inl (v5 + 1)), (6, .inr x2)]) (k := 3) [1, 2, 3, 0, 4] dX5_pushOut_72 rfl q16 (Nat.le_of_ble_eq_true rfl) rfl ?_
        refine a_goto (tgt := 12) dX5_pushOut_75 (by decide) ?_
        refine a_sub [0, 1, 2, 3] rfl ?_
        exact h
theorem m_X10_type {G : GT} (hg : gx G = FX) {n : Nat} {μ : Mem} {Q : Int → Nat → Mem → Prop} {v1 : Int}  (h : (CI G Y_X10_isWithin [.inl v1, .inl 0, .inl 255] n μ (fun (x1 : Int) (n2 : Nat) (μ3 : Mem) => ((¬ (x1 = 0) → (CI G Y_X9_isFull [.inr 1] n2 μ3 (fun (x5 : Int) (n6 : Nat) (μ7 : Mem) => ((x5 = 0 → (CV G Y_X9_append [.inr 1, .inl v1] n6 μ7 (fun (n10 : Nat) (μ11 : Mem) => (Q (μ11 1 1) n10 μ11)))) ∧ (¬ (x5 = 0) → (Q (-3) n6 μ7)))))) ∧ (x1 = 0 → (Q (-1) n2 μ3)))))) : CI G Y_X10_type [.inr 0, .inl v1] n μ Q := by
  refine e_I (by decide) (Nat.le_of_ble_eq_true rfl) ?_
  show Wa G Y_X10_type (ZI G Y_X10_type Q) 0 0 n μ 0 [(0, .inr 0), (1, .inl v1)] []
  refine a_iload_n (k := 1) dX10_type_0 rfl rfl ?_
  refine a_iconst dX10_type_1 (by decide) ?_
  refine a_sipush dX10_type_2 (by decide) (by decide) ?_
  refine k_X10_86 rfl dX10_type_5 (Nat.le_of_ble_eq_true rfl) rfl (Nat.le_of_ble_eq_true rfl) (Nat.le_of_ble_eq_true rfl) h (fun x1 n2 μ3 h => ?_)
  refine a_if_ne (tgt := 13) dX10_type_8 (by decide) (fun c4 => ?_) (fun c4 => ?_)
  · replace h := h.1 c4
    refine a_aload_n (k := 0) dX10_type_13 rfl rfl ?_
    refine gs_X10_12 rfl dX10_type_14 hg St_0 ?_
    refine k_X10_90 rfl dX10_type_17 (Nat.le_of_ble_eq_true rfl) rfl (Nat.le_of_ble_eq_true rfl) (Nat.le_of_ble_eq_true rfl) (St_ho hg St_1) h (fun x5 n6 μ7 h => ?_)
    refine a_if_eq (tgt := 26) dX10_type_20 (by decide) (fun c8 => ?_) (fun c8 => ?_)
    · replace h := h.1 c8
      refine a_aload_n (k := 0) dX10_type_26 rfl rfl ?_
      refine gs_X10_12 rfl dX10_type_27 hg St_0 ?_
      refine a_iload_n (k := 1) dX10_type_30 rfl rfl ?_
      refine k_X10_94 rfl dX10_type_31 (Nat.le_of_ble_eq_true rfl) rfl (Nat.le_of_ble_eq_true rfl) (Nat.le_of_ble_eq_true rfl) (St_ho hg St_1) h (fun n10 μ11 h => ?_)
      refine a_aload_n (k := 0) dX10_type_34 rfl rfl ?_
      refine gs_X10_12 rfl dX10_type_35 hg St_0 ?_
      refine g_X10_98 rfl dX10_type_38 (St_ho hg St_1) ?_
      exact a_iret dX10_type_41 rfl (Nat.le_of_ble_eq_true rfl) (Nat.le_of_ble_eq_true rfl) h
    · replace h := h.2 c8
      refine a_bipush dX10_type_23 (by decide) (by decide) ?_
      exact a_iret dX10_type_25 rfl (Nat.le_of_ble_eq_true rfl) (Nat.le_of_ble_eq_true rfl) h
  · replace h := h.2 c4
    refine a_iconst dX10_type_11 (by decide) ?_
    exact a_iret dX10_type_12 rfl (Nat.le_of_ble_eq_true rfl) (Nat.le_of_ble_eq_true rfl) h
theorem m_X10_clear {G : GT} (hg : gx G = FX) {n : Nat} {μ : Mem} {Q : Int → Nat → Mem → Prop}  (h : (CV G Y_X9_empty [.inr 1] n μ (fun (n2 : Nat) (μ3 : Mem) => (Q (μ 1 1) n2 μ3)))) : CI G Y_X10_clear [.inr 0] n μ Q := by
  refine e_I (by decide) (Nat.le_of_ble_eq_true rfl) ?_
  show Wa G Y_X10_clear (ZI G Y_X10_clear Q) 0 0 n μ 0 [(0, .inr 0)] []
  refine a_aload_n (k := 0) dX10_clear_0 rfl rfl ?_
  refine gs_X10_12 rfl dX10_clear_1 hg St_0 ?_
  refine g_X10_98 rfl dX10_clear_4 (St_ho hg St_1) ?_
  refine b_istore_n (L' := [(0, .inr 0), (1, .inl (μ 1 1))]) [1, 0] dX10_clear_7 rfl (Nat.le_of_ble_eq_true rfl) rfl ?_
  refine a_aload_n (k := 0) dX10_clear_8 rfl rfl ?_
  refine gs_X10_12 rfl dX10_clear_9 hg St_0 ?_
  refine k_X10_101 rfl dX10_clear_12 (Nat.le_of_ble_eq_true rfl) rfl (Nat.le_of_ble_eq_true rfl) (Nat.le_of_ble_eq_true rfl) (St_ho hg St_1) h (fun n2 μ3 h => ?_)
  refine a_iload_n (k := 1) dX10_clear_15 rfl rfl ?_
  exact a_iret dX10_clear_16 rfl (Nat.le_of_ble_eq_true rfl) (Nat.le_of_ble_eq_true rfl) h
theorem m_X10_plan {G : GT} (hg : gx G = FX) {n : Nat} {μ : Mem} {Q : Int → Nat → Mem → Prop}  (h : ((0 + 150 ≤ 150 ∧ 0 + 900 ≤ 900) ∧ (CI G Y_X4_readPlan [.inr 3] n μ (fun (x1 : Int) (n2 : Nat) (μ3 : Mem) => ((x1 < 0 → ((0 + 150 ≤ 150 ∧ 0 + 900 ≤ 900) ∧ (Q x1 n2 μ3))) ∧ (¬ (x1 < 0) → ((0 + 150 ≤ 150 ∧ 0 + 900 ≤ 900) ∧ (CV G Y_X3_copyFrom [.inr 7, .inr 4] n2 μ3 (fun (n7 : Nat) (μ8 : Mem) => ((0 + 150 ≤ 150 ∧ 0 + 900 ≤ 900) ∧ (CV G Y_X9_empty [.inr 1] n7 μ8 (fun (n10 : Nat) (μ11 : Mem) => ((0 + 150 ≤ 150 ∧ 0 + 900 ≤ 900) ∧ (CV G Y_X7_reset [.inr 18] n10 μ11 (fun (n13 : Nat) (μ14 : Mem) => ((0 + 150 ≤ 150 ∧ 0 + 900 ≤ 900) ∧ (CV G Y_X2_forgetAll [.inr 76] n13 μ14 (fun (n16 : Nat) (μ17 : Mem) => ((0 + 150 ≤ 150 ∧ 0 + 900 ≤ 900) ∧ (CV G Y_X8_cut [.inr 397, .inl 0] n16 (up μ17 0 11 0) (fun (n19 : Nat) (μ20 : Mem) => ((0 + 150 ≤ 150 ∧ 0 + 900 ≤ 900) ∧ (Q x1 n19 μ20))))))))))))))))))))))) : CI G Y_X10_plan [.inr 0] n μ Q := by
  refine e_I (by decide) (Nat.le_of_ble_eq_true rfl) ?_
  show Wa G Y_X10_plan (ZI G Y_X10_plan Q) 0 0 n μ 0 [(0, .inr 0)] []
  refine a_aload_n (k := 0) dX10_plan_0 rfl rfl ?_
  refine gs_X10_21 rfl dX10_plan_1 hg St_0 ?_
  obtain ⟨q27, h⟩ := h
  refine k_X10_104 rfl dX10_plan_4 (Nat.le_of_ble_eq_true rfl) rfl q27.1 q27.2 (St_ho hg St_3) h (fun x1 n2 μ3 h => ?_)
  refine b_istore_n (L' := [(0, .inr 0), (1, .inl x1)]) [1, 0] dX10_plan_7 rfl (Nat.le_of_ble_eq_true rfl) rfl ?_
  refine a_iload_n (k := 1) dX10_plan_8 rfl rfl ?_
  refine a_if_lt (tgt := 60) dX10_plan_9 (by decide) (fun c4 => ?_) (fun c4 => ?_)
  · replace h := h.1 c4
    refine a_iload_n (k := 1) dX10_plan_60 rfl rfl ?_
    obtain ⟨q5, h⟩ := h
    exact a_iret dX10_plan_61 rfl q5.1 q5.2 h
  · replace h := h.2 c4
    refine a_aload_n (k := 0) dX10_plan_12 rfl rfl ?_
    refine gs_X10_28 rfl dX10_plan_13 hg St_0 ?_
    refine a_aload_n (k := 0) dX10_plan_16 rfl rfl ?_
    refine gs_X10_21 rfl dX10_plan_17 hg St_0 ?_
    refine gs_X10_108 rfl dX10_plan_20 hg St_3 ?_
    obtain ⟨q26, h⟩ := h
    refine k_X10_111 rfl dX10_plan_23 (Nat.le_of_ble_eq_true rfl) rfl q26.1 q26.2 (St_ho hg St_7) h (fun n7 μ8 h => ?_)
    refine a_aload_n (k := 0) dX10_plan_26 rfl rfl ?_
    refine gs_X10_12 rfl dX10_plan_27 hg St_0 ?_
    obtain ⟨q25, h⟩ := h
    refine k_X10_101 rfl dX10_plan_30 (Nat.le_of_ble_eq_true rfl) rfl q25.1 q25.2 (St_ho hg St_1) h (fun n10 μ11 h => ?_)
    refine a_aload_n (k := 0) dX10_plan_33 rfl rfl ?_
    refine gs_X10_53 rfl dX10_plan_34 hg St_0 ?_
    obtain ⟨q24, h⟩ := h
    refine k_X10_114 rfl dX10_plan_37 (Nat.le_of_ble_eq_true rfl) rfl q24.1 q24.2 (St_ho hg St_18) h (fun n13 μ14 h => ?_)
    refine a_aload_n (k := 0) dX10_plan_40 rfl rfl ?_
    refine gs_X10_63 rfl dX10_plan_41 hg St_0 ?_
    obtain ⟨q23, h⟩ := h
    refine k_X10_117 rfl dX10_plan_44 (Nat.le_of_ble_eq_true rfl) rfl q23.1 q23.2 (St_ho hg St_76) h (fun n16 μ17 h => ?_)
    refine a_aload_n (k := 0) dX10_plan_47 rfl rfl ?_
    refine a_iconst dX10_plan_48 (by decide) ?_
    refine p_X10_82 rfl dX10_plan_49 (St_ho hg St_0) (FX_put hg St_0 rfl) ?_
    refine a_aload_n (k := 0) dX10_plan_52 rfl rfl ?_
    refine gs_X10_78 rfl dX10_plan_53 hg St_0 ?_
    refine a_iconst dX10_plan_56 (by decide) ?_
    obtain ⟨q22, h⟩ := h
    refine k_X10_120 rfl dX10_plan_57 (Nat.le_of_ble_eq_true rfl) rfl q22.1 q22.2 (St_ho hg St_397) h (fun n19 μ20 h => ?_)
    refine a_iload_n (k := 1) dX10_plan_60 rfl rfl ?_
    obtain ⟨q21, h⟩ := h
    exact a_iret dX10_plan_61 rfl q21.1 q21.2 h
theorem m_X10_contact {G : GT} (hg : gx G = FX) {n : Nat} {μ : Mem} {Q : Int → Nat → Mem → Prop} {v1 v2 : Int}  (h : (CI G Y_X3_hasContact [.inr 7, .inl v1] n μ (fun (x1 : Int) (n2 : Nat) (μ3 : Mem) => ((x1 = 0 → (Q (-1) n2 μ3)) ∧ (¬ (x1 = 0) → (CI G Y_X10_isWithin [.inl v2, .inl 0, .inl 6] n2 μ3 (fun (x5 : Int) (n6 : Nat) (μ7 : Mem) => ((¬ (x5 = 0) → ((¬ (v2 = 6) → (CR G Y_X3_contactAt [.inr 7, .inl v1] n6 μ7 (fun (x10 : Int) (n11 : Nat) (μ12 : Mem) => ((Co n11 x10) ∧ (CI G Y_X1_property [.inr x10, .inl v2] n11 μ12 (fun (x13 : Int) (n14 : Nat) (μ15 : Mem) => (Q x13 n14 μ15))))))) ∧ (v2 = 6 → (CI G Y_X7_isMissed [.inr 18, .inl v1] n6 μ7 (fun (x17 : Int) (n18 : Nat) (μ19 : Mem) => ((x17 = 0 → (Q 0 n18 μ19)) ∧ (¬ (x17 = 0) → (Q 1 n18 μ19)))))))) ∧ (x5 = 0 → (Q (-1) n6 μ7)))))))))) : CI G Y_X10_contact [.inr 0, .inl v1, .inl v2] n μ Q := by
  refine e_I (by decide) (Nat.le_of_ble_eq_true rfl) ?_
  show Wa G Y_X10_contact (ZI G Y_X10_contact Q) 0 0 n μ 0 [(0, .inr 0), (1, .inl v1), (2, .inl v2)] []
  refine a_aload_n (k := 0) dX10_contact_0 rfl rfl ?_
  refine gs_X10_28 rfl dX10_contact_1 hg St_0 ?_
  refine a_iload_n (k := 1) dX10_contact_4 rfl rfl ?_
  refine k_X10_123 rfl dX10_contact_5 (Nat.le_of_ble_eq_true rfl) rfl (Nat.le_of_ble_eq_true rfl) (Nat.le_of_ble_eq_true rfl) (St_ho hg St_7) h (fun x1 n2 μ3 h => ?_)
  refine a_if_eq (tgt := 21) dX10_contact_8 (by decide) (fun c4 => ?_) (fun c4 => ?_)
  · replace h := h.1 c4
    refine a_iconst dX10_contact_21 (by decide) ?_
    exact a_iret dX10_contact_22 rfl (Nat.le_of_ble_eq_true rfl) (Nat.le_of_ble_eq_true rfl) h
  · replace h := h.2 c4
    refine a_iload_n (k := 2) dX10_contact_11 rfl rfl ?_
    refine a_iconst dX10_contact_12 (by decide) ?_
    refine a_bipush dX10_contact_13 (by decide) (by decide) ?_
    refine k_X10_86 rfl dX10_contact_15 (Nat.le_of_ble_eq_true rfl) rfl (Nat.le_of_ble_eq_true rfl) (Nat.le_of_ble_eq_true rfl) h (fun x5 n6 μ7 h => ?_)
    refine a_if_ne (tgt := 23) dX10_contact_18 (by decide) (fun c8 => ?_) (fun c8 => ?_)
    · replace h := h.1 c8
      refine a_iload_n (k := 2) dX10_contact_23 rfl rfl ?_
      refine a_bipush dX10_contact_24 (by decide) (by decide) ?_
      refine a_icmp_ne (tgt := 46) dX10_contact_26 (by decide) (fun c9 => ?_) (fun c9 => ?_)
      · replace h := h.1 c9
        refine a_aload_n (k := 0) dX10_contact_46 rfl rfl ?_
        refine gs_X10_28 rfl dX10_contact_47 hg St_0 ?_
        refine a_iload_n (k := 1) dX10_contact_50 rfl rfl ?_
        refine k_X10_130 rfl dX10_contact_51 (Nat.le_of_ble_eq_true rfl) rfl (Nat.le_of_ble_eq_true rfl) (Nat.le_of_ble_eq_true rfl) (St_ho hg St_7) h (fun x10 n11 μ12 _ h => ?_)
        refine a_iload_n (k := 2) dX10_contact_54 rfl rfl ?_
        obtain ⟨q16, h⟩ := h
        refine k_X10_134 rfl dX10_contact_55 (Nat.le_of_ble_eq_true rfl) rfl (Nat.le_of_ble_eq_true rfl) (Nat.le_of_ble_eq_true rfl) (fun _ => q16) h (fun x13 n14 μ15 h => ?_)
        exact a_iret dX10_contact_58 rfl (Nat.le_of_ble_eq_true rfl) (Nat.le_of_ble_eq_true rfl) h
      · replace h := h.2 c9
        refine a_aload_n (k := 0) dX10_contact_29 rfl rfl ?_
        refine gs_X10_53 rfl dX10_contact_30 hg St_0 ?_
        refine a_iload_n (k := 1) dX10_contact_33 rfl rfl ?_
        refine k_X10_127 rfl dX10_contact_34 (Nat.le_of_ble_eq_true rfl) rfl (Nat.le_of_ble_eq_true rfl) (Nat.le_of_ble_eq_true rfl) (St_ho hg St_18) h (fun x17 n18 μ19 h => ?_)
        refine a_if_eq (tgt := 44) dX10_contact_37 (by decide) (fun c20 => ?_) (fun c20 => ?_)
        · replace h := h.1 c20
          refine a_iconst dX10_contact_44 (by decide) ?_
          exact a_iret dX10_contact_45 rfl (Nat.le_of_ble_eq_true rfl) (Nat.le_of_ble_eq_true rfl) h
        · replace h := h.2 c20
          refine a_iconst dX10_contact_40 (by decide) ?_
          refine a_goto (tgt := 45) dX10_contact_41 (by decide) ?_
          exact a_iret dX10_contact_45 rfl (Nat.le_of_ble_eq_true rfl) (Nat.le_of_ble_eq_true rfl) h
    · replace h := h.2 c8
      refine a_iconst dX10_contact_21 (by decide) ?_
      exact a_iret dX10_contact_22 rfl (Nat.le_of_ble_eq_true rfl) (Nat.le_of_ble_eq_true rfl) h
abbrev B_X10_sends_106 (G : GT) (Q : Int → Nat → Mem → Prop) (n : Nat) (μ : Mem) (v6 : Int) : Prop := Wa G Y_X10_sends (ZI G Y_X10_sends Q) 0 0 n μ 106 [(0, .inr 0), (6, .inl v6)] []
theorem m_X10_sends {G : GT} (hg : gx G = FX) {n : Nat} {μ : Mem} {Q : Int → Nat → Mem → Prop} {v1 v2 v3 v4 v5 : Int}  (h : (CI G Y_X10_isSendable [.inr 0, .inl v1, .inl v2, .inl v3, .inl v5] n μ (fun (x1 : Int) (n2 : Nat) (μ3 : Mem) => ((x1 = 0 → (Q (-1) n2 μ3)) ∧ (¬ (x1 = 0) → (CI G Y_X10_isWithin [.inl v4, .inl 0, .inl 99] n2 μ3 (fun (x5 : Int) (n6 : Nat) (μ7 : Mem) => ((¬ (x5 = 0) → (((μ7 18 2) < 8 → (CV G Y_X2_remember [.inr 76, .inr 18] n6 μ7 (fun (n11 : Nat) (μ12 : Mem) => (CI G Y_X7_addBundle [.inr 18] n11 μ12 (fun (x13 : Int) (n14 : Nat) (μ15 : Mem) => (CR G Y_X7_bundleAt [.inr 18, .inl x13] n14 μ15 (fun (x16 : Int) (n17 : Nat) (μ18 : Mem) => (St x16 0 9) ∧ (CV G Y_X0_start [.inr x16, .inl v1, .inl v2, .inl v3, .inl v4, .inl v5] n17 μ18 (fun (n21 : Nat) (μ22 : Mem) => (CI G Y_X7_isOpen [.inr 18, .inl x13] n21 μ22 (fun (x23 : Int) (n24 : Nat) (μ25 : Mem) => ((x23 = 0 → (B_X10_sends_106 G Q n24 μ25 x13)) ∧ (¬ (x23 = 0) → (CV G Y_X5_planAll [.inr 17, .inr 18, .inl (iShl 1 x13)] n24 μ25 (fun (n28 : Nat) (μ29 : Mem) => (B_X10_sends_106 G Q n28 μ29 x13)))))))))))))))) ∧ (¬ ((μ7 18 2) < 8) → (Q (-3) n6 μ7)))) ∧ (x5 = 0 → (Q (-1) n6 μ7)))))))))) : CI G Y_X10_sends [.inr 0, .inl v1, .inl v2, .inl v3, .inl v4, .inl v5] n μ Q := by
  refine e_I (by decide) (Nat.le_of_ble_eq_true rfl) ?_
  show Wa G Y_X10_sends (ZI G Y_X10_sends Q) 0 0 n μ 0 [(0, .inr 0), (1, .inl v1), (2, .inl v2), (3, .inl v3), (4, .inl v4), (5, .inl v5)] []
  refine a_aload_n (k := 0) dX10_sends_0 rfl rfl ?_
  refine a_iload_n (k := 1) dX10_sends_1 rfl rfl ?_
  refine a_iload_n (k := 2) dX10_sends_2 rfl rfl ?_
  refine a_iload_n (k := 3) dX10_sends_3 rfl rfl ?_
  refine a_iload (k := 5) dX10_sends_4 rfl ?_
  refine k_X10_140 rfl dX10_sends_6 (Nat.le_of_ble_eq_true rfl) rfl (Nat.le_of_ble_eq_true rfl) (Nat.le_of_ble_eq_true rfl) (St_ho hg St_0) h (fun x1 n2 μ3 h => ?_)
  refine a_if_eq (tgt := 23) dX10_sends_9 (by decide) (fun c4 => ?_) (fun c4 => ?_)
  · replace h := h.1 c4
    refine a_iconst dX10_sends_23 (by decide) ?_
    exact a_iret dX10_sends_24 rfl (Nat.le_of_ble_eq_true rfl) (Nat.le_of_ble_eq_true rfl) h
  · replace h := h.2 c4
    refine a_iload (k := 4) dX10_sends_12 rfl ?_
    refine a_iconst dX10_sends_14 (by decide) ?_
    refine a_bipush dX10_sends_15 (by decide) (by decide) ?_
    refine k_X10_86 rfl dX10_sends_17 (Nat.le_of_ble_eq_true rfl) rfl (Nat.le_of_ble_eq_true rfl) (Nat.le_of_ble_eq_true rfl) h (fun x5 n6 μ7 h => ?_)
    refine a_if_ne (tgt := 25) dX10_sends_20 (by decide) (fun c8 => ?_) (fun c8 => ?_)
    · replace h := h.1 c8
      refine a_aload_n (k := 0) dX10_sends_25 rfl rfl ?_
      refine gs_X10_53 rfl dX10_sends_26 hg St_0 ?_
      refine g_X10_144 rfl dX10_sends_29 (St_ho hg St_18) ?_
      refine a_bipush dX10_sends_32 (by decide) (by decide) ?_
      refine a_icmp_lt (tgt := 40) dX10_sends_34 (by decide) (fun c9 => ?_) (fun c9 => ?_)
      · replace h := h.1 c9
        refine a_aload_n (k := 0) dX10_sends_40 rfl rfl ?_
        refine gs_X10_63 rfl dX10_sends_41 hg St_0 ?_
        refine a_aload_n (k := 0) dX10_sends_44 rfl rfl ?_
        refine gs_X10_53 rfl dX10_sends_45 hg St_0 ?_
        refine k_X10_147 rfl dX10_sends_48 (Nat.le_of_ble_eq_true rfl) rfl (Nat.le_of_ble_eq_true rfl) (Nat.le_of_ble_eq_true rfl) (St_ho hg St_76) h (fun n11 μ12 h => ?_)
        refine a_aload_n (k := 0) dX10_sends_51 rfl rfl ?_
        refine gs_X10_53 rfl dX10_sends_52 hg St_0 ?_
        refine k_X10_151 rfl dX10_sends_55 (Nat.le_of_ble_eq_true rfl) rfl (Nat.le_of_ble_eq_true rfl) (Nat.le_of_ble_eq_true rfl) (St_ho hg St_18) h (fun x13 n14 μ15 h => ?_)
        refine b_istore (L' := [(0, .inr 0), (1, .inl v1), (2, .inl v2), (3, .inl v3), (4, .inl v4), (5, .inl v5), (6, .inl x13)]) [1, 2, 3, 4, 5, 6, 0] dX10_sends_58 (Nat.le_of_ble_eq_true rfl) rfl ?_
        refine a_aload_n (k := 0) dX10_sends_60 rfl rfl ?_
        refine gs_X10_53 rfl dX10_sends_61 hg St_0 ?_
        refine a_iload (k := 6) dX10_sends_64 rfl ?_
        refine k_X10_154 rfl dX10_sends_66 (Nat.le_of_ble_eq_true rfl) rfl (Nat.le_of_ble_eq_true rfl) (Nat.le_of_ble_eq_true rfl) (St_ho hg St_18) h (fun x16 n17 μ18 _ h => ?_)
        obtain ⟨q19, h⟩ := h
        refine a_iload_n (k := 1) dX10_sends_69 rfl rfl ?_
        refine a_iload_n (k := 2) dX10_sends_70 rfl rfl ?_
        refine a_iload_n (k := 3) dX10_sends_71 rfl rfl ?_
        refine a_iload (k := 4) dX10_sends_72 rfl ?_
        refine a_iload (k := 5) dX10_sends_74 rfl ?_
        refine k_X10_158 rfl dX10_sends_76 (Nat.le_of_ble_eq_true rfl) rfl (Nat.le_of_ble_eq_true rfl) (Nat.le_of_ble_eq_true rfl) (St_ho hg q19) h (fun n21 μ22 h => ?_)
        refine a_aload_n (k := 0) dX10_sends_79 rfl rfl ?_
        refine gs_X10_53 rfl dX10_sends_80 hg St_0 ?_
        refine a_iload (k := 6) dX10_sends_83 rfl ?_
        refine k_X10_164 rfl dX10_sends_85 (Nat.le_of_ble_eq_true rfl) rfl (Nat.le_of_ble_eq_true rfl) (Nat.le_of_ble_eq_true rfl) (St_ho hg St_18) h (fun x23 n24 μ25 h => ?_)
        refine a_if_eq (tgt := 106) dX10_sends_88 (by decide) (fun c26 => ?_) (fun c26 => ?_)
        · replace h := h.1 c26
          refine a_sub [0, 6] rfl ?_
          exact h
        · replace h := h.2 c26
          refine a_aload_n (k := 0) dX10_sends_91 rfl rfl ?_
          refine gs_X10_46 rfl dX10_sends_92 hg St_0 ?_
          refine a_aload_n (k := 0) dX10_sends_95 rfl rfl ?_
          refine gs_X10_53 rfl dX10_sends_96 hg St_0 ?_
          refine a_iconst dX10_sends_99 (by decide) ?_
          refine a_iload (k := 6) dX10_sends_100 rfl ?_
          refine a_ishl dX10_sends_102 ?_
          refine k_X10_167 rfl dX10_sends_103 (Nat.le_of_ble_eq_true rfl) rfl (Nat.le_of_ble_eq_true rfl) (Nat.le_of_ble_eq_true rfl) (St_ho hg St_17) h (fun n28 μ29 h => ?_)
          refine a_sub [0, 6] rfl ?_
          exact h
      · replace h := h.2 c9
        refine a_bipush dX10_sends_37 (by decide) (by decide) ?_
        exact a_iret dX10_sends_39 rfl (Nat.le_of_ble_eq_true rfl) (Nat.le_of_ble_eq_true rfl) h
    · replace h := h.2 c8
      refine a_iconst dX10_sends_23 (by decide) ?_
      exact a_iret dX10_sends_24 rfl (Nat.le_of_ble_eq_true rfl) (Nat.le_of_ble_eq_true rfl) h
theorem b_X10_sends_106 {G : GT} (hg : gx G = FX) {n : Nat} {μ : Mem} {Q : Int → Nat → Mem → Prop} {v6 : Int}  (h : (CI G Y_X7_tickAtGoal [.inr 18, .inl v6] n μ (fun (x1 : Int) (n2 : Nat) (μ3 : Mem) => (Q x1 n2 μ3)))) : B_X10_sends_106 G Q n μ v6 := by
  show Wa G Y_X10_sends (ZI G Y_X10_sends Q) 0 0 n μ 106 [(0, .inr 0), (6, .inl v6)] []
  refine a_aload_n (k := 0) dX10_sends_106 rfl rfl ?_
  refine gs_X10_53 rfl dX10_sends_107 hg St_0 ?_
  refine a_iload (k := 1) dX10_sends_110 rfl ?_
  refine k_X10_171 rfl dX10_sends_112 (Nat.le_of_ble_eq_true rfl) rfl (Nat.le_of_ble_eq_true rfl) (Nat.le_of_ble_eq_true rfl) (St_ho hg St_18) h (fun x1 n2 μ3 h => ?_)
  exact a_iret dX10_sends_115 rfl (Nat.le_of_ble_eq_true rfl) (Nat.le_of_ble_eq_true rfl) h
theorem m_X10_drops {G : GT} (hg : gx G = FX) {n : Nat} {μ : Mem} {Q : Int → Nat → Mem → Prop} {v1 : Int}  (h : (CI G Y_X7_hasBundle [.inr 18, .inl v1] n μ (fun (x1 : Int) (n2 : Nat) (μ3 : Mem) => ((¬ (x1 = 0) → (CI G Y_X7_isOpen [.inr 18, .inl v1] n2 μ3 (fun (x5 : Int) (n6 : Nat) (μ7 : Mem) => ((¬ (x5 = 0) → (CV G Y_X2_remember [.inr 76, .inr 18] n6 μ7 (fun (n10 : Nat) (μ11 : Mem) => (CR G Y_X7_bundleAt [.inr 18, .inl v1] n10 μ11 (fun (x12 : Int) (n13 : Nat) (μ14 : Mem) => (St x12 0 9) ∧ (CV G Y_X0_drop [.inr x12, .inl (μ14 18 3)] n13 μ14 (fun (n17 : Nat) (μ18 : Mem) => (Q 1 n17 μ18)))))))) ∧ (x5 = 0 → (Q (-2) n6 μ7)))))) ∧ (x1 = 0 → (Q (-1) n2 μ3)))))) : CI G Y_X10_drops [.inr 0, .inl v1] n μ Q := by
  refine e_I (by decide) (Nat.le_of_ble_eq_true rfl) ?_
  show Wa G Y_X10_drops (ZI G Y_X10_drops Q) 0 0 n μ 0 [(0, .inr 0), (1, .inl v1)] []
  refine a_aload_n (k := 0) dX10_drops_0 rfl rfl ?_
  refine gs_X10_53 rfl dX10_drops_1 hg St_0 ?_
  refine a_iload_n (k := 1) dX10_drops_4 rfl rfl ?_
  refine k_X10_174 rfl dX10_drops_5 (Nat.le_of_ble_eq_true rfl) rfl (Nat.le_of_ble_eq_true rfl) (Nat.le_of_ble_eq_true rfl) (St_ho hg St_18) h (fun x1 n2 μ3 h => ?_)
  refine a_if_ne (tgt := 13) dX10_drops_8 (by decide) (fun c4 => ?_) (fun c4 => ?_)
  · replace h := h.1 c4
    refine a_aload_n (k := 0) dX10_drops_13 rfl rfl ?_
    refine gs_X10_53 rfl dX10_drops_14 hg St_0 ?_
    refine a_iload_n (k := 1) dX10_drops_17 rfl rfl ?_
    refine k_X10_164 rfl dX10_drops_18 (Nat.le_of_ble_eq_true rfl) rfl (Nat.le_of_ble_eq_true rfl) (Nat.le_of_ble_eq_true rfl) (St_ho hg St_18) h (fun x5 n6 μ7 h => ?_)
    refine a_if_ne (tgt := 27) dX10_drops_21 (by decide) (fun c8 => ?_) (fun c8 => ?_)
    · replace h := h.1 c8
      refine a_aload_n (k := 0) dX10_drops_27 rfl rfl ?_
      refine gs_X10_63 rfl dX10_drops_28 hg St_0 ?_
      refine a_aload_n (k := 0) dX10_drops_31 rfl rfl ?_
      refine gs_X10_53 rfl dX10_drops_32 hg St_0 ?_
      refine k_X10_147 rfl dX10_drops_35 (Nat.le_of_ble_eq_true rfl) rfl (Nat.le_of_ble_eq_true rfl) (Nat.le_of_ble_eq_true rfl) (St_ho hg St_76) h (fun n10 μ11 h => ?_)
      refine a_aload_n (k := 0) dX10_drops_38 rfl rfl ?_
      refine gs_X10_53 rfl dX10_drops_39 hg St_0 ?_
      refine a_iload_n (k := 1) dX10_drops_42 rfl rfl ?_
      refine k_X10_154 rfl dX10_drops_43 (Nat.le_of_ble_eq_true rfl) rfl (Nat.le_of_ble_eq_true rfl) (Nat.le_of_ble_eq_true rfl) (St_ho hg St_18) h (fun x12 n13 μ14 _ h => ?_)
      obtain ⟨q15, h⟩ := h
      refine a_aload_n (k := 0) dX10_drops_46 rfl rfl ?_
      refine gs_X10_53 rfl dX10_drops_47 hg St_0 ?_
      refine g_X10_177 rfl dX10_drops_50 (St_ho hg St_18) ?_
      refine k_X10_180 rfl dX10_drops_53 (Nat.le_of_ble_eq_true rfl) rfl (Nat.le_of_ble_eq_true rfl) (Nat.le_of_ble_eq_true rfl) (St_ho hg q15) h (fun n17 μ18 h => ?_)
      refine a_iconst dX10_drops_56 (by decide) ?_
      exact a_iret dX10_drops_57 rfl (Nat.le_of_ble_eq_true rfl) (Nat.le_of_ble_eq_true rfl) h
    · replace h := h.2 c8
      refine a_bipush dX10_drops_24 (by decide) (by decide) ?_
      exact a_iret dX10_drops_26 rfl (Nat.le_of_ble_eq_true rfl) (Nat.le_of_ble_eq_true rfl) h
  · replace h := h.2 c4
    refine a_iconst dX10_drops_11 (by decide) ?_
    exact a_iret dX10_drops_12 rfl (Nat.le_of_ble_eq_true rfl) (Nat.le_of_ble_eq_true rfl) h
theorem m_X10_passes {G : GT} (hg : gx G = FX) {n : Nat} {μ : Mem} {Q : Int → Nat → Mem → Prop} {v1 : Int}  (h : (CI G Y_X10_isWithin [.inl v1, .inl 1, .inl 99] n μ (fun (x1 : Int) (n2 : Nat) (μ3 : Mem) => ((¬ (x1 = 0) → ((inR ((μ3 18 3) + v1)) ∧ ((((μ3 18 3) + v1) ≤ 99 → (CV G Y_X2_remember [.inr 76, .inr 18] n2 μ3 (fun (n8 : Nat) (μ9 : Mem) => (CV G Y_X7_advance [.inr 18, .inl v1] n8 μ9 (fun (n11 : Nat) (μ12 : Mem) => (Q (μ12 18 3) n11 μ12)))))) ∧ (¬ (((μ3 18 3) + v1) ≤ 99) → (Q (-2) n2 μ3))))) ∧ (x1 = 0 → (Q (-1) n2 μ3)))))) : CI G Y_X10_passes [.inr 0, .inl v1] n μ Q := by
  refine e_I (by decide) (Nat.le_of_ble_eq_true rfl) ?_
  show Wa G Y_X10_passes (ZI G Y_X10_passes Q) 0 0 n μ 0 [(0, .inr 0), (1, .inl v1)] []
  refine a_iload_n (k := 1) dX10_passes_0 rfl rfl ?_
  refine a_iconst dX10_passes_1 (by decide) ?_
  refine a_bipush dX10_passes_2 (by decide) (by decide) ?_
  refine k_X10_86 rfl dX10_passes_4 (Nat.le_of_ble_eq_true rfl) rfl (Nat.le_of_ble_eq_true rfl) (Nat.le_of_ble_eq_true rfl) h (fun x1 n2 μ3 h => ?_)
  refine a_if_ne (tgt := 12) dX10_passes_7 (by decide) (fun c4 => ?_) (fun c4 => ?_)
  · replace h := h.1 c4
    refine a_aload_n (k := 0) dX10_passes_12 rfl rfl ?_
    refine gs_X10_53 rfl dX10_passes_13 hg St_0 ?_
    refine g_X10_177 rfl dX10_passes_16 (St_ho hg St_18) ?_
    refine a_iload_n (k := 1) dX10_passes_19 rfl rfl ?_
    obtain ⟨q5, h⟩ := h
    refine a_iadd dX10_passes_20 q5 ?_
    refine a_bipush dX10_passes_21 (by decide) (by decide) ?_
    refine a_icmp_le (tgt := 29) dX10_passes_23 (by decide) (fun c6 => ?_) (fun c6 => ?_)
    · replace h := h.1 c6
      refine a_aload_n (k := 0) dX10_passes_29 rfl rfl ?_
      refine gs_X10_63 rfl dX10_passes_30 hg St_0 ?_
      refine a_aload_n (k := 0) dX10_passes_33 rfl rfl ?_
      refine gs_X10_53 rfl dX10_passes_34 hg St_0 ?_
      refine k_X10_147 rfl dX10_passes_37 (Nat.le_of_ble_eq_true rfl) rfl (Nat.le_of_ble_eq_true rfl) (Nat.le_of_ble_eq_true rfl) (St_ho hg St_76) h (fun n8 μ9 h => ?_)
      refine a_aload_n (k := 0) dX10_passes_40 rfl rfl ?_
      refine gs_X10_53 rfl dX10_passes_41 hg St_0 ?_
      refine a_iload_n (k := 1) dX10_passes_44 rfl rfl ?_
      refine k_X10_183 rfl dX10_passes_45 (Nat.le_of_ble_eq_true rfl) rfl (Nat.le_of_ble_eq_true rfl) (Nat.le_of_ble_eq_true rfl) (St_ho hg St_18) h (fun n11 μ12 h => ?_)
      refine a_aload_n (k := 0) dX10_passes_48 rfl rfl ?_
      refine gs_X10_53 rfl dX10_passes_49 hg St_0 ?_
      refine g_X10_177 rfl dX10_passes_52 (St_ho hg St_18) ?_
      exact a_iret dX10_passes_55 rfl (Nat.le_of_ble_eq_true rfl) (Nat.le_of_ble_eq_true rfl) h
    · replace h := h.2 c6
      refine a_bipush dX10_passes_26 (by decide) (by decide) ?_
      exact a_iret dX10_passes_28 rfl (Nat.le_of_ble_eq_true rfl) (Nat.le_of_ble_eq_true rfl) h
  · replace h := h.2 c4
    refine a_iconst dX10_passes_10 (by decide) ?_
    exact a_iret dX10_passes_11 rfl (Nat.le_of_ble_eq_true rfl) (Nat.le_of_ble_eq_true rfl) h
theorem m_X10_misses {G : GT} (hg : gx G = FX) {n : Nat} {μ : Mem} {Q : Int → Nat → Mem → Prop} {v1 : Int}  (h : (CI G Y_X3_hasContact [.inr 7, .inl v1] n μ (fun (x1 : Int) (n2 : Nat) (μ3 : Mem) => ((¬ (x1 = 0) → (CI G Y_X7_isMissed [.inr 18, .inl v1] n2 μ3 (fun (x5 : Int) (n6 : Nat) (μ7 : Mem) => ((x5 = 0 → (CV G Y_X2_remember [.inr 76, .inr 18] n6 μ7 (fun (n10 : Nat) (μ11 : Mem) => (CI G Y_X7_lose [.inr 18, .inl v1] n10 μ11 (fun (x12 : Int) (n13 : Nat) (μ14 : Mem) => (CV G Y_X5_planAll [.inr 17, .inr 18, .inl x12] n13 μ14 (fun (n16 : Nat) (μ17 : Mem) => (CI G Y_X7_countStanding [.inr 18, .inl 0] n16 μ17 (fun (x18 : Int) (n19 : Nat) (μ20 : Mem) => (Q x18 n19 μ20)))))))))) ∧ (¬ (x5 = 0) → (Q (-2) n6 μ7)))))) ∧ (x1 = 0 → (Q (-1) n2 μ3)))))) : CI G Y_X10_misses [.inr 0, .inl v1] n μ Q := by
  refine e_I (by decide) (Nat.le_of_ble_eq_true rfl) ?_
  show Wa G Y_X10_misses (ZI G Y_X10_misses Q) 0 0 n μ 0 [(0, .inr 0), (1, .inl v1)] []
  refine a_aload_n (k := 0) dX10_misses_0 rfl rfl ?_
  refine gs_X10_28 rfl dX10_misses_1 hg St_0 ?_
  refine a_iload_n (k := 1) dX10_misses_4 rfl rfl ?_
  refine k_X10_123 rfl dX10_misses_5 (Nat.le_of_ble_eq_true rfl) rfl (Nat.le_of_ble_eq_true rfl) (Nat.le_of_ble_eq_true rfl) (St_ho hg St_7) h (fun x1 n2 μ3 h => ?_)
  refine a_if_ne (tgt := 13) dX10_misses_8 (by decide) (fun c4 => ?_) (fun c4 => ?_)
  · replace h := h.1 c4
    refine a_aload_n (k := 0) dX10_misses_13 rfl rfl ?_
    refine gs_X10_53 rfl dX10_misses_14 hg St_0 ?_
    refine a_iload_n (k := 1) dX10_misses_17 rfl rfl ?_
    refine k_X10_127 rfl dX10_misses_18 (Nat.le_of_ble_eq_true rfl) rfl (Nat.le_of_ble_eq_true rfl) (Nat.le_of_ble_eq_true rfl) (St_ho hg St_18) h (fun x5 n6 μ7 h => ?_)
    refine a_if_eq (tgt := 27) dX10_misses_21 (by decide) (fun c8 => ?_) (fun c8 => ?_)
    · replace h := h.1 c8
      refine a_aload_n (k := 0) dX10_misses_27 rfl rfl ?_
      refine gs_X10_63 rfl dX10_misses_28 hg St_0 ?_
      refine a_aload_n (k := 0) dX10_misses_31 rfl rfl ?_
      refine gs_X10_53 rfl dX10_misses_32 hg St_0 ?_
      refine k_X10_147 rfl dX10_misses_35 (Nat.le_of_ble_eq_true rfl) rfl (Nat.le_of_ble_eq_true rfl) (Nat.le_of_ble_eq_true rfl) (St_ho hg St_76) h (fun n10 μ11 h => ?_)
      refine a_aload_n (k := 0) dX10_misses_38 rfl rfl ?_
      refine gs_X10_46 rfl dX10_misses_39 hg St_0 ?_
      refine a_aload_n (k := 0) dX10_misses_42 rfl rfl ?_
      refine gs_X10_53 rfl dX10_misses_43 hg St_0 ?_
      refine a_aload_n (k := 0) dX10_misses_46 rfl rfl ?_
      refine gs_X10_53 rfl dX10_misses_47 hg St_0 ?_
      refine a_iload_n (k := 1) dX10_misses_50 rfl rfl ?_
      refine k_X10_186 rfl dX10_misses_51 (Nat.le_of_ble_eq_true rfl) rfl (Nat.le_of_ble_eq_true rfl) (Nat.le_of_ble_eq_true rfl) (St_ho hg St_18) h (fun x12 n13 μ14 h => ?_)
      refine k_X10_167 rfl dX10_misses_54 (Nat.le_of_ble_eq_true rfl) rfl (Nat.le_of_ble_eq_true rfl) (Nat.le_of_ble_eq_true rfl) (St_ho hg St_17) h (fun n16 μ17 h => ?_)
      refine a_aload_n (k := 0) dX10_misses_57 rfl rfl ?_
      refine gs_X10_53 rfl dX10_misses_58 hg St_0 ?_
      refine a_iconst dX10_misses_61 (by decide) ?_
      refine k_X10_189 rfl dX10_misses_62 (Nat.le_of_ble_eq_true rfl) rfl (Nat.le_of_ble_eq_true rfl) (Nat.le_of_ble_eq_true rfl) (St_ho hg St_18) h (fun x18 n19 μ20 h => ?_)
      exact a_iret dX10_misses_65 rfl (Nat.le_of_ble_eq_true rfl) (Nat.le_of_ble_eq_true rfl) h
    · replace h := h.2 c8
      refine a_bipush dX10_misses_24 (by decide) (by decide) ?_
      exact a_iret dX10_misses_26 rfl (Nat.le_of_ble_eq_true rfl) (Nat.le_of_ble_eq_true rfl) h
  · replace h := h.2 c4
    refine a_iconst dX10_misses_11 (by decide) ?_
    exact a_iret dX10_misses_12 rfl (Nat.le_of_ble_eq_true rfl) (Nat.le_of_ble_eq_true rfl) h
theorem m_X10_finds {G : GT} (hg : gx G = FX) {n : Nat} {μ : Mem} {Q : Int → Nat → Mem → Prop} {v1 : Int}  (h : (CI G Y_X3_hasContact [.inr 7, .inl v1] n μ (fun (x1 : Int) (n2 : Nat) (μ3 : Mem) => ((¬ (x1 = 0) → (CI G Y_X7_isMissed [.inr 18, .inl v1] n2 μ3 (fun (x5 : Int) (n6 : Nat) (μ7 : Mem) => ((¬ (x5 = 0) → (CV G Y_X2_remember [.inr 76, .inr 18] n6 μ7 (fun (n10 : Nat) (μ11 : Mem) => (CI G Y_X7_regain [.inr 18, .inl v1] n10 μ11 (fun (x12 : Int) (n13 : Nat) (μ14 : Mem) => (CV G Y_X5_planAll [.inr 17, .inr 18, .inl x12] n13 μ14 (fun (n16 : Nat) (μ17 : Mem) => (CI G Y_X7_countStanding [.inr 18, .inl 0] n16 μ17 (fun (x18 : Int) (n19 : Nat) (μ20 : Mem) => (Q x18 n19 μ20)))))))))) ∧ (x5 = 0 → (Q (-2) n6 μ7)))))) ∧ (x1 = 0 → (Q (-1) n2 μ3)))))) : CI G Y_X10_finds [.inr 0, .inl v1] n μ Q := by
  refine e_I (by decide) (Nat.le_of_ble_eq_true rfl) ?_
  show Wa G Y_X10_finds (ZI G Y_X10_finds Q) 0 0 n μ 0 [(0, .inr 0), (1, .inl v1)] []
  refine a_aload_n (k := 0) dX10_finds_0 rfl rfl ?_
  refine gs_X10_28 rfl dX10_finds_1 hg St_0 ?_
  refine a_iload_n (k := 1) dX10_finds_4 rfl rfl ?_
  refine k_X10_123 rfl dX10_finds_5 (Nat.le_of_ble_eq_true rfl) rfl (Nat.le_of_ble_eq_true rfl) (Nat.le_of_ble_eq_true rfl) (St_ho hg St_7) h (fun x1 n2 μ3 h => ?_)
  refine a_if_ne (tgt := 13) dX10_finds_8 (by decide) (fun c4 => ?_) (fun c4 => ?_)
  · replace h := h.1 c4
    refine a_aload_n (k := 0) dX10_finds_13 rfl rfl ?_
    refine gs_X10_53 rfl dX10_finds_14 hg St_0 ?_
    refine a_iload_n (k := 1) dX10_finds_17 rfl rfl ?_
    refine k_X10_127 rfl dX10_finds_18 (Nat.le_of_ble_eq_true rfl) rfl (Nat.le_of_ble_eq_true rfl) (Nat.le_of_ble_eq_true rfl) (St_ho hg St_18) h (fun x5 n6 μ7 h => ?_)
    refine a_if_ne (tgt := 27) dX10_finds_21 (by decide) (fun c8 => ?_) (fun c8 => ?_)
    · replace h := h.1 c8
      refine a_aload_n (k := 0) dX10_finds_27 rfl rfl ?_
      refine gs_X10_63 rfl dX10_finds_28 hg St_0 ?_
      refine a_aload_n (k := 0) dX10_finds_31 rfl rfl ?_
      refine gs_X10_53 rfl dX10_finds_32 hg St_0 ?_
      refine k_X10_147 rfl dX10_finds_35 (Nat.le_of_ble_eq_true rfl) rfl (Nat.le_of_ble_eq_true rfl) (Nat.le_of_ble_eq_true rfl) (St_ho hg St_76) h (fun n10 μ11 h => ?_)
      refine a_aload_n (k := 0) dX10_finds_38 rfl rfl ?_
      refine gs_X10_46 rfl dX10_finds_39 hg St_0 ?_
      refine a_aload_n (k := 0) dX10_finds_42 rfl rfl ?_
      refine gs_X10_53 rfl dX10_finds_43 hg St_0 ?_
      refine a_aload_n (k := 0) dX10_finds_46 rfl rfl ?_
      refine gs_X10_53 rfl dX10_finds_47 hg St_0 ?_
      refine a_iload_n (k := 1) dX10_finds_50 rfl rfl ?_
      refine k_X10_192 rfl dX10_finds_51 (Nat.le_of_ble_eq_true rfl) rfl (Nat.le_of_ble_eq_true rfl) (Nat.le_of_ble_eq_true rfl) (St_ho hg St_18) h (fun x12 n13 μ14 h => ?_)
      refine k_X10_167 rfl dX10_finds_54 (Nat.le_of_ble_eq_true rfl) rfl (Nat.le_of_ble_eq_true rfl) (Nat.le_of_ble_eq_true rfl) (St_ho hg St_17) h (fun n16 μ17 h => ?_)
      refine a_aload_n (k := 0) dX10_finds_57 rfl rfl ?_
      refine gs_X10_53 rfl dX10_finds_58 hg St_0 ?_
      refine a_iconst dX10_finds_61 (by decide) ?_
      refine k_X10_189 rfl dX10_finds_62 (Nat.le_of_ble_eq_true rfl) rfl (Nat.le_of_ble_eq_true rfl) (Nat.le_of_ble_eq_true rfl) (St_ho hg St_18) h (fun x18 n19 μ20 h => ?_)
      exact a_iret dX10_finds_65 rfl (Nat.le_of_ble_eq_true rfl) (Nat.le_of_ble_eq_true rfl) h
    · replace h := h.2 c8
      refine a_bipush dX10_finds_24 (by decide) (by decide) ?_
      exact a_iret dX10_finds_26 rfl (Nat.le_of_ble_eq_true rfl) (Nat.le_of_ble_eq_true rfl) h
  · replace h := h.2 c4
    refine a_iconst dX10_finds_11 (by decide) ?_
    exact a_iret dX10_finds_12 rfl (Nat.le_of_ble_eq_true rfl) (Nat.le_of_ble_eq_true rfl) h
theorem m_X10_undo {G : GT} (hg : gx G = FX) {n : Nat} {μ : Mem} {Q : Int → Nat → Mem → Prop}  (h : ((¬ ((μ 76 3) = 0) → (CV G Y_X2_takeBack [.inr 76, .inr 18] n μ (fun (n3 : Nat) (μ4 : Mem) => (Q (μ4 76 3) n3 μ4)))) ∧ ((μ 76 3) = 0 → (Q (-2) n μ)))) : CI G Y_X10_undo [.inr 0] n μ Q := by
  refine e_I (by decide) (Nat.le_of_ble_eq_true rfl) ?_
  show Wa G Y_X10_undo (ZI G Y_X10_undo Q) 0 0 n μ 0 [(0, .inr 0)] []
  refine a_aload_n (k := 0) dX10_undo_0 rfl rfl ?_
  refine gs_X10_63 rfl dX10_undo_1 hg St_0 ?_
  refine g_X10_195 rfl dX10_undo_4 (St_ho hg St_76) ?_
  refine a_if_ne (tgt := 13) dX10_undo_7 (by decide) (fun c1 => ?_) (fun c1 => ?_)
  · replace h := h.1 c1
    refine a_aload_n (k := 0) dX10_undo_13 rfl rfl ?_
    refine gs_X10_63 rfl dX10_undo_14 hg St_0 ?_
    refine a_aload_n (k := 0) dX10_undo_17 rfl rfl ?_
    refine gs_X10_53 rfl dX10_undo_18 hg St_0 ?_
    refine k_X10_198 rfl dX10_undo_21 (Nat.le_of_ble_eq_true rfl) rfl (Nat.le_of_ble_eq_true rfl) (Nat.le_of_ble_eq_true rfl) (St_ho hg St_76) h (fun n3 μ4 h => ?_)
    refine a_aload_n (k := 0) dX10_undo_24 rfl rfl ?_
    refine gs_X10_63 rfl dX10_undo_25 hg St_0 ?_
    refine g_X10_195 rfl dX10_undo_28 (St_ho hg St_76) ?_
    exact a_iret dX10_undo_31 rfl (Nat.le_of_ble_eq_true rfl) (Nat.le_of_ble_eq_true rfl) h
  · replace h := h.2 c1
    refine a_bipush dX10_undo_10 (by decide) (by decide) ?_
    exact a_iret dX10_undo_12 rfl (Nat.le_of_ble_eq_true rfl) (Nat.le_of_ble_eq_true rfl) h
theorem m_X10_bundle {G : GT} (hg : gx G = FX) {n : Nat} {μ : Mem} {Q : Int → Nat → Mem → Prop} {v1 v2 : Int}  (h : (CI G Y_X7_hasBundle [.inr 18, .inl v1] n μ (fun (x1 : Int) (n2 : Nat) (μ3 : Mem) => ((x1 = 0 → (Q (-1) n2 μ3)) ∧ (¬ (x1 = 0) → (CI G Y_X10_isWithin [.inl v2, .inl 0, .inl 8] n2 μ3 (fun (x5 : Int) (n6 : Nat) (μ7 : Mem) => ((¬ (x5 = 0) → (CR G Y_X7_bundleAt [.inr 18, .inl v1] n6 μ7 (fun (x9 : Int) (n10 : Nat) (μ11 : Mem) => (St x9 0 9) ∧ (CI G Y_X0_property [.inr x9, .inl v2, .inl (μ11 18 3)] n10 μ11 (fun (x13 : Int) (n14 : Nat) (μ15 : Mem) => (Q x13 n14 μ15)))))) ∧ (x5 = 0 → (Q (-1) n6 μ7)))))))))) : CI G Y_X10_bundle [.inr 0, .inl v1, .inl v2] n μ Q := by
  refine e_I (by decide) (Nat.le_of_ble_eq_true rfl) ?_
  show Wa G Y_X10_bundle (ZI G Y_X10_bundle Q) 0 0 n μ 0 [(0, .inr 0), (1, .inl v1), (2, .inl v2)] []
  refine a_aload_n (k := 0) dX10_bundle_0 rfl rfl ?_
  refine gs_X10_53 rfl dX10_bundle_1 hg St_0 ?_
  refine a_iload_n (k := 1) dX10_bundle_4 rfl rfl ?_
  refine k_X10_174 rfl dX10_bundle_5 (Nat.le_of_ble_eq_true rfl) rfl (Nat.le_of_ble_eq_true rfl) (Nat.le_of_ble_eq_true rfl) (St_ho hg St_18) h (fun x1 n2 μ3 h => ?_)
  refine a_if_eq (tgt := 21) dX10_bundle_8 (by decide) (fun c4 => ?_) (fun c4 => ?_)
  · replace h := h.1 c4
    refine a_iconst dX10_bundle_21 (by decide) ?_
    exact a_iret dX10_bundle_22 rfl (Nat.le_of_ble_eq_true rfl) (Nat.le_of_ble_eq_true rfl) h
  · replace h := h.2 c4
    refine a_iload_n (k := 2) dX10_bundle_11 rfl rfl ?_
    refine a_iconst dX10_bundle_12 (by decide) ?_
    refine a_bipush dX10_bundle_13 (by decide) (by decide) ?_
    refine k_X10_86 rfl dX10_bundle_15 (Nat.le_of_ble_eq_true rfl) rfl (Nat.le_of_ble_eq_true rfl) (Nat.le_of_ble_eq_true rfl) h (fun x5 n6 μ7 h => ?_)
    refine a_if_ne (tgt := 23) dX10_bundle_18 (by decide) (fun c8 => ?_) (fun c8 => ?_)
    · replace h := h.1 c8
      refine a_aload_n (k := 0) dX10_bundle_23 rfl rfl ?_
      refine gs_X10_53 rfl dX10_bundle_24 hg St_0 ?_
      refine a_iload_n (k := 1) dX10_bundle_27 rfl rfl ?_
      refine k_X10_154 rfl dX10_bundle_28 (Nat.le_of_ble_eq_true rfl) rfl (Nat.le_of_ble_eq_true rfl) (Nat.le_of_ble_eq_true rfl) (St_ho hg St_18) h (fun x9 n10 μ11 _ h => ?_)
      obtain ⟨q12, h⟩ := h
      refine a_iload_n (k := 2) dX10_bundle_31 rfl rfl ?_
      refine a_aload_n (k := 0) dX10_bundle_32 rfl rfl ?_
      refine gs_X10_53 rfl dX10_bundle_33 hg St_0 ?_
      refine g_X10_177 rfl dX10_bundle_36 (St_ho hg St_18) ?_
      refine k_X10_201 rfl dX10_bundle_39 (Nat.le_of_ble_eq_true rfl) rfl (Nat.le_of_ble_eq_true rfl) (Nat.le_of_ble_eq_true rfl) (St_ho hg q12) h (fun x13 n14 μ15 h => ?_)
      exact a_iret dX10_bundle_42 rfl (Nat.le_of_ble_eq_true rfl) (Nat.le_of_ble_eq_true rfl) h
    · replace h := h.2 c8
      refine a_iconst dX10_bundle_21 (by decide) ?_
      exact a_iret dX10_bundle_22 rfl (Nat.le_of_ble_eq_true rfl) (Nat.le_of_ble_eq_true rfl) h
abbrev B_X10_hop_47 (G : GT) (Q : Int → Nat → Mem → Prop) (n : Nat) (μ : Mem) (u0 : Int) (u1 : Int) (u2 : Int) : Prop := Wa G Y_X10_hop (ZI G Y_X10_hop Q) 0 0 n μ 47 [] [.inl u0, .inl u1, .inr u2]
theorem m_X10_hop {G : GT} (hg : gx G = FX) {n : Nat} {μ : Mem} {Q : Int → Nat → Mem → Prop} {v1 v2 v3 : Int}  (h : (CI G Y_X7_hasBundle [.inr 18, .inl v1] n μ (fun (x1 : Int) (n2 : Nat) (μ3 : Mem) => ((x1 = 0 → (Q (-1) n2 μ3)) ∧ (¬ (x1 = 0) → ((v2 < 0 → (Q (-1) n2 μ3)) ∧ (¬ (v2 < 0) → (CI G Y_X10_isWithin [.inl v3, .inl 0, .inl 1] n2 μ3 (fun (x6 : Int) (n7 : Nat) (μ8 : Mem) => ((¬ (x6 = 0) → (CR G Y_X7_bundleAt [.inr 18, .inl v1] n7 μ8 (fun (x10 : Int) (n11 : Nat) (μ12 : Mem) => (St x10 0 9) ∧ ((¬ (v3 = 0) → (B_X10_hop_47 G Q n11 μ12 1 v2 (x10 + 1))) ∧ (v3 = 0 → (B_X10_hop_47 G Q n11 μ12 0 v2 (x10 + 1))))))) ∧ (x6 = 0 → (Q (-1) n7 μ8)))))))))))) : CI G Y_X10_hop [.inr 0, .inl v1, .inl v2, .inl v3] n μ Q := by
  refine e_I (by decide) (Nat.le_of_ble_eq_true rfl) ?_
  show Wa G Y_X10_hop (ZI G Y_X10_hop Q) 0 0 n μ 0 [(0, .inr 0), (1, .inl v1), (2, .inl v2), (3, .inl v3)] []
  refine a_aload_n (k := 0) dX10_hop_0 rfl rfl ?_
  refine gs_X10_53 rfl dX10_hop_1 hg St_0 ?_
  refine a_iload_n (k := 1) dX10_hop_4 rfl rfl ?_
  refine k_X10_174 rfl dX10_hop_5 (Nat.le_of_ble_eq_true rfl) rfl (Nat.le_of_ble_eq_true rfl) (Nat.le_of_ble_eq_true rfl) (St_ho hg St_18) h (fun x1 n2 μ3 h => ?_)
  refine a_if_eq (tgt := 24) dX10_hop_8 (by decide) (fun c4 => ?_) (fun c4 => ?_)
  · replace h := h.1 c4
    refine a_iconst dX10_hop_24 (by decide) ?_
    exact a_iret dX10_hop_25 rfl (Nat.le_of_ble_eq_true rfl) (Nat.le_of_ble_eq_true rfl) h
  · replace h := h.2 c4
    refine a_iload_n (k := 2) dX10_hop_11 rfl rfl ?_
    refine a_if_lt (tgt := 24) dX10_hop_12 (by decide) (fun c5 => ?_) (fun c5 => ?_)
    · replace h := h.1 c5
      refine a_iconst dX10_hop_24 (by decide) ?_
      exact a_iret dX10_hop_25 rfl (Nat.le_of_ble_eq_true rfl) (Nat.le_of_ble_eq_true rfl) h
    · replace h := h.2 c5
      refine a_iload_n (k := 3) dX10_hop_15 rfl rfl ?_
      refine a_iconst dX10_hop_16 (by decide) ?_
      refine a_iconst dX10_hop_17 (by decide) ?_
      refine k_X10_86 rfl dX10_hop_18 (Nat.le_of_ble_eq_true rfl) rfl (Nat.le_of_ble_eq_true rfl) (Nat.le_of_ble_eq_true rfl) h (fun x6 n7 μ8 h => ?_)
      refine a_if_ne (tgt := 26) dX10_hop_21 (by decide) (fun c9 => ?_) (fun c9 => ?_)
      · replace h := h.1 c9
        refine a_aload_n (k := 0) dX10_hop_26 rfl rfl ?_
        refine gs_X10_53 rfl dX10_hop_27 hg St_0 ?_
        refine a_iload_n (k := 1) dX10_hop_30 rfl rfl ?_
        refine k_X10_154 rfl dX10_hop_31 (Nat.le_of_ble_eq_true rfl) rfl (Nat.le_of_ble_eq_true rfl) (Nat.le_of_ble_eq_true rfl) (St_ho hg St_18) h (fun x10 n11 μ12 _ h => ?_)
        obtain ⟨q13, h⟩ := h
        refine gs_X10_204 rfl dX10_hop_34 hg q13 ?_
        refine a_iload_n (k := 2) dX10_hop_37 rfl rfl ?_
        refine a_iload_n (k := 3) dX10_hop_38 rfl rfl ?_
        refine a_if_ne (tgt := 46) dX10_hop_39 (by decide) (fun c14 => ?_) (fun c14 => ?_)
        · replace h := h.1 c14
          refine a_iconst dX10_hop_46 (by decide) ?_
          refine a_sub [] rfl ?_
          exact h
        · replace h := h.2 c14
          refine a_iconst dX10_hop_42 (by decide) ?_
          refine a_goto (tgt := 47) dX10_hop_43 (by decide) ?_
          refine a_sub [] rfl ?_
          exact h
      · replace h := h.2 c9
        refine a_iconst dX10_hop_24 (by decide) ?_
        exact a_iret dX10_hop_25 rfl (Nat.le_of_ble_eq_true rfl) (Nat.le_of_ble_eq_true rfl) h
theorem b_X10_hop_47 {G : GT} (hg : gx G = FX) {n : Nat} {μ : Mem} {Q : Int → Nat → Mem → Prop} {u0 u1 u2 : Int} (ou2 : St u2 8 3) (h : (CI G Y_X8_at [.inr u2, .inl u1, .inl u0] n μ (fun (x1 : Int) (n2 : Nat) (μ3 : Mem) => (Q x1 n2 μ3)))) : B_X10_hop_47 G Q n μ u0 u1 u2 := by
  show Wa G Y_X10_hop (ZI G Y_X10_hop Q) 0 0 n μ 47 [] [.inl u0, .inl u1, .inr u2]
  refine k_X10_207 rfl dX10_hop_47 (Nat.le_of_ble_eq_true rfl) rfl (Nat.le_of_ble_eq_true rfl) (Nat.le_of_ble_eq_true rfl) (St_ho hg ou2) h (fun x1 n2 μ3 h => ?_)
  exact a_iret dX10_hop_50 rfl (Nat.le_of_ble_eq_true rfl) (Nat.le_of_ble_eq_true rfl) h
theorem m_X10_tick {G : GT} (hg : gx G = FX) {n : Nat} {μ : Mem} {Q : Int → Nat → Mem → Prop} {v1 v2 : Int}  (h : (CI G Y_X3_hasContact [.inr 7, .inl v1] n μ (fun (x1 : Int) (n2 : Nat) (μ3 : Mem) => ((x1 = 0 → (Q (-1) n2 μ3)) ∧ (¬ (x1 = 0) → (CI G Y_X10_isWithin [.inl v2, .inl (μ3 18 3), .inl 99] n2 μ3 (fun (x5 : Int) (n6 : Nat) (μ7 : Mem) => ((¬ (x5 = 0) → (CI G Y_X7_takerOf [.inr 18, .inl v1, .inl v2] n6 μ7 (fun (x9 : Int) (n10 : Nat) (μ11 : Mem) => (Q x9 n10 μ11)))) ∧ (x5 = 0 → (Q (-1) n6 μ7)))))))))) : CI G Y_X10_tick [.inr 0, .inl v1, .inl v2] n μ Q := by
  refine e_I (by decide) (Nat.le_of_ble_eq_true rfl) ?_
  show Wa G Y_X10_tick (ZI G Y_X10_tick Q) 0 0 n μ 0 [(0, .inr 0), (1, .inl v1), (2, .inl v2)] []
  refine a_aload_n (k := 0) dX10_tick_0 rfl rfl ?_
  refine gs_X10_28 rfl dX10_tick_1 hg St_0 ?_
  refine a_iload_n (k := 1) dX10_tick_4 rfl rfl ?_
  refine k_X10_123 rfl dX10_tick_5 (Nat.le_of_ble_eq_true rfl) rfl (Nat.le_of_ble_eq_true rfl) (Nat.le_of_ble_eq_true rfl) (St_ho hg St_7) h (fun x1 n2 μ3 h => ?_)
  refine a_if_eq (tgt := 27) dX10_tick_8 (by decide) (fun c4 => ?_) (fun c4 => ?_)
  · replace h := h.1 c4
    refine a_iconst dX10_tick_27 (by decide) ?_
    exact a_iret dX10_tick_28 rfl (Nat.le_of_ble_eq_true rfl) (Nat.le_of_ble_eq_true rfl) h
  · replace h := h.2 c4
    refine a_iload_n (k := 2) dX10_tick_11 rfl rfl ?_
    refine a_aload_n (k := 0) dX10_tick_12 rfl rfl ?_
    refine gs_X10_53 rfl dX10_tick_13 hg St_0 ?_
    refine g_X10_177 rfl dX10_tick_16 (St_ho hg St_18) ?_
    refine a_bipush dX10_tick_19 (by decide) (by decide) ?_
    refine k_X10_86 rfl dX10_tick_21 (Nat.le_of_ble_eq_true rfl) rfl (Nat.le_of_ble_eq_true rfl) (Nat.le_of_ble_eq_true rfl) h (fun x5 n6 μ7 h => ?_)
    refine a_if_ne (tgt := 29) dX10_tick_24 (by decide) (fun c8 => ?_) (fun c8 => ?_)
    · replace h := h.1 c8
      refine a_aload_n (k := 0) dX10_tick_29 rfl rfl ?_
      refine gs_X10_53 rfl dX10_tick_30 hg St_0 ?_
      refine a_iload_n (k := 1) dX10_tick_33 rfl rfl ?_
      refine a_iload_n (k := 2) dX10_tick_34 rfl rfl ?_
      refine k_X10_210 rfl dX10_tick_35 (Nat.le_of_ble_eq_true rfl) rfl (Nat.le_of_ble_eq_true rfl) (Nat.le_of_ble_eq_true rfl) (St_ho hg St_18) h (fun x9 n10 μ11 h => ?_)
      exact a_iret dX10_tick_38 rfl (Nat.le_of_ble_eq_true rfl) (Nat.le_of_ble_eq_true rfl) h
    · replace h := h.2 c8
      refine a_iconst dX10_tick_27 (by decide) ?_
      exact a_iret dX10_tick_28 rfl (Nat.le_of_ble_eq_true rfl) (Nat.le_of_ble_eq_true rfl) h
theorem m_X10_asks {G : GT} (hg : gx G = FX) {n : Nat} {μ : Mem} {Q : Int → Nat → Mem → Prop} {v1 v2 v3 v4 : Int}  (h : (CI G Y_X10_isSendable [.inr 0, .inl v1, .inl v2, .inl v3, .inl v4] n μ (fun (x1 : Int) (n2 : Nat) (μ3 : Mem) => ((¬ (x1 = 0) → (CV G Y_X6_lookAt [.inr 10, .inr 18, .inl v4] n2 μ3 (fun (n6 : Nat) (μ7 : Mem) => (CI G Y_X10_predict [.inr 0, .inl v1, .inl v2, .inl v3, .inl (-1)] n6 μ7 (fun (x8 : Int) (n9 : Nat) (μ10 : Mem) => (Q x8 n9 μ10)))))) ∧ (x1 = 0 → (Q (-1) n2 μ3)))))) : CI G Y_X10_asks [.inr 0, .inl v1, .inl v2, .inl v3, .inl v4] n μ Q := by
  refine e_I (by decide) (Nat.le_of_ble_eq_true rfl) ?_
  show Wa G Y_X10_asks (ZI G Y_X10_asks Q) 0 0 n μ 0 [(0, .inr 0), (1, .inl v1), (2, .inl v2), (3, .inl v3), (4, .inl v4)] []
  refine a_aload_n (k := 0) dX10_asks_0 rfl rfl ?_
  refine a_iload_n (k := 1) dX10_asks_1 rfl rfl ?_
  refine a_iload_n (k := 2) dX10_asks_2 rfl rfl ?_
  refine a_iload_n (k := 3) dX10_asks_3 rfl rfl ?_
  refine a_iload (k := 4) dX10_asks_4 rfl ?_
  refine k_X10_140 rfl dX10_asks_6 (Nat.le_of_ble_eq_true rfl) rfl (Nat.le_of_ble_eq_true rfl) (Nat.le_of_ble_eq_true rfl) (St_ho hg St_0) h (fun x1 n2 μ3 h => ?_)
  refine a_if_ne (tgt := 14) dX10_asks_9 (by decide) (fun c4 => ?_) (fun c4 => ?_)
  · replace h := h.1 c4
    refine a_aload_n (k := 0) dX10_asks_14 rfl rfl ?_
    refine gs_X10_37 rfl dX10_asks_15 hg St_0 ?_
    refine a_aload_n (k := 0) dX10_asks_18 rfl rfl ?_
    refine gs_X10_53 rfl dX10_asks_19 hg St_0 ?_
    refine a_iload (k := 4) dX10_asks_22 rfl ?_
    refine k_X10_213 rfl dX10_asks_24 (Nat.le_of_ble_eq_true rfl) rfl (Nat.le_of_ble_eq_true rfl) (Nat.le_of_ble_eq_true rfl) (St_ho hg St_10) h (fun n6 μ7 h => ?_)
    refine a_aload_n (k := 0) dX10_asks_27 rfl rfl ?_
    refine a_iload_n (k := 1) dX10_asks_28 rfl rfl ?_
    refine a_iload_n (k := 2) dX10_asks_29 rfl rfl ?_
    refine a_iload_n (k := 3) dX10_asks_30 rfl rfl ?_
    refine a_iconst dX10_asks_31 (by decide) ?_
    refine k_X10_216 rfl dX10_asks_32 (Nat.le_of_ble_eq_true rfl) rfl (Nat.le_of_ble_eq_true rfl) (Nat.le_of_ble_eq_true rfl) (St_ho hg St_0) h (fun x8 n9 μ10 h => ?_)
    exact a_iret dX10_asks_35 rfl (Nat.le_of_ble_eq_true rfl) (Nat.le_of_ble_eq_true rfl) h
  · replace h := h.2 c4
    refine a_iconst dX10_asks_12 (by decide) ?_
    exact a_iret dX10_asks_13 rfl (Nat.le_of_ble_eq_true rfl) (Nat.le_of_ble_eq_true rfl) h
abbrev B_X10_largest_40 (G : GT) (Q : Int → Nat → Mem → Prop) (n : Nat) (μ : Mem) (v1 : Int) (v2 : Int) (v4 : Int) (v5 : Int) : Prop := Wa G Y_X10_largest (ZI G Y_X10_largest Q) 0 0 n μ 40 [(0, .inr 0), (1, .inl v1), (2, .inl v2), (4, .inl v4), (5, .inl v5)] []
theorem m_X10_largest {G : GT} (hg : gx G = FX) {n : Nat} {μ : Mem} {Q : Int → Nat → Mem → Prop} {v1 v2 v3 v4 : Int}  (h : (CI G Y_X10_isSendable [.inr 0, .inl v1, .inl v2, .inl 1, .inl v3] n μ (fun (x1 : Int) (n2 : Nat) (μ3 : Mem) => ((x1 = 0 → (Q (-1) n2 μ3)) ∧ (¬ (x1 = 0) → (CI G Y_X10_isWithin [.inl v4, .inl 0, .inl 120] n2 μ3 (fun (x5 : Int) (n6 : Nat) (μ7 : Mem) => ((¬ (x5 = 0) → (CV G Y_X6_lookAt [.inr 10, .inr 18, .inl v3] n6 μ7 (fun (n10 : Nat) (μ11 : Mem) => (B_X10_largest_40 G Q n10 μ11 v1 v2 v4 20)))) ∧ (x5 = 0 → (Q (-1) n6 μ7)))))))))) : CI G Y_X10_largest [.inr 0, .inl v1, .inl v2, .inl v3, .inl v4] n μ Q := by
  refine e_I (by decide) (Nat.le_of_ble_eq_true rfl) ?_
  show Wa G Y_X10_largest (ZI G Y_X10_largest Q) 0 0 n μ 0 [(0, .inr 0), (1, .inl v1), (2, .inl v2), (3, .inl v3), (4, .inl v4)] []
  refine a_aload_n (k := 0) dX10_largest_0 rfl rfl ?_
  refine a_iload_n (k := 1) dX10_largest_1 rfl rfl ?_
  refine a_iload_n (k := 2) dX10_largest_2 rfl rfl ?_
  refine a_iconst dX10_largest_3 (by decide) ?_
  refine a_iload_n (k := 3) dX10_largest_4 rfl rfl ?_
  refine k_X10_140 rfl dX10_largest_5 (Nat.le_of_ble_eq_true rfl) rfl (Nat.le_of_ble_eq_true rfl) (Nat.le_of_ble_eq_true rfl) (St_ho hg St_0) h (fun x1 n2 μ3 h => ?_)
  refine a_if_eq (tgt := 22) dX10_largest_8 (by decide) (fun c4 => ?_) (fun c4 => ?_)
  · replace h := h.1 c4
    refine a_iconst dX10_largest_22 (by decide) ?_
    exact a_iret dX10_largest_23 rfl (Nat.le_of_ble_eq_true rfl) (Nat.le_of_ble_eq_true rfl) h
  · replace h := h.2 c4
    refine a_iload (k := 4) dX10_largest_11 rfl ?_
    refine a_iconst dX10_largest_13 (by decide) ?_
    refine a_bipush dX10_largest_14 (by decide) (by decide) ?_
    refine k_X10_86 rfl dX10_largest_16 (Nat.le_of_ble_eq_true rfl) rfl (Nat.le_of_ble_eq_true rfl) (Nat.le_of_ble_eq_true rfl) h (fun x5 n6 μ7 h => ?_)
    refine a_if_ne (tgt := 24) dX10_largest_19 (by decide) (fun c8 => ?_) (fun c8 => ?_)
    · replace h := h.1 c8
      refine a_aload_n (k := 0) dX10_largest_24 rfl rfl ?_
      refine gs_X10_37 rfl dX10_largest_25 hg St_0 ?_
      refine a_aload_n (k := 0) dX10_largest_28 rfl rfl ?_
      refine gs_X10_53 rfl dX10_largest_29 hg St_0 ?_
      refine a_iload_n (k := 3) dX10_largest_32 rfl rfl ?_
      refine k_X10_213 rfl dX10_largest_33 (Nat.le_of_ble_eq_true rfl) rfl (Nat.le_of_ble_eq_true rfl) (Nat.le_of_ble_eq_true rfl) (St_ho hg St_10) h (fun n10 μ11 h => ?_)
      refine a_bipush dX10_largest_36 (by decide) (by decide) ?_
      refine b_istore (L' := [(0, .inr 0), (1, .inl v1), (2, .inl v2), (3, .inl v3), (4, .inl v4), (5, .inl 20)]) [1, 2, 3, 4, 5, 0] dX10_largest_38 (Nat.le_of_ble_eq_true rfl) rfl ?_
      refine a_sub [0, 1, 2, 4, 5] rfl ?_
      exact h
    · replace h := h.2 c8
      refine a_iconst dX10_largest_22 (by decide) ?_
      exact a_iret dX10_largest_23 rfl (Nat.le_of_ble_eq_true rfl) (Nat.le_of_ble_eq_true rfl) h
theorem b_X10_largest_40 {G : GT} (hg : gx G = FX) {n : Nat} {μ : Mem} {Q : Int → Nat → Mem → Prop} {v1 v2 v4 v5 : Int}  (h : ((v5 < 1 → (Q (-9) n μ)) ∧ (¬ (v5 < 1) → (CI G Y_X10_predict [.inr 0, .inl v1, .inl v2, .inl v5, .inl (-1)] n μ (fun (x2 : Int) (n3 : Nat) (μ4 : Mem) => ((x2 = (-9) → ((inR (v5 + (-1))) ∧ (B_X10_largest_40 G Q n3 μ4 v1 v2 v4 (v5 + (-1))))) ∧ (¬ (x2 = (-9)) → ((v4 < x2 → ((inR (v5 + (-1))) ∧ (B_X10_largest_40 G Q n3 μ4 v1 v2 v4 (v5 + (-1))))) ∧ (¬ (v4 < x2) → (Q v5 n3 μ4)))))))))) : B_X10_largest_40 G Q n μ v1 v2 v4 v5 := by
  show Wa G Y_X10_largest (ZI G Y_X10_largest Q) 0 0 n μ 40 [(0, .inr 0), (1, .inl v1), (2, .inl v2), (4, .inl v4), (5, .inl v5)] []
  refine a_iload (k := 4) dX10_largest_40 rfl ?_
  refine a_iconst dX10_largest_42 (by decide) ?_
  refine a_icmp_lt (tgt := 80) dX10_largest_43 (by decide) (fun c1 => ?_) (fun c1 => ?_)
  · replace h := h.1 c1
    refine a_bipush dX10_largest_80 (by decide) (by decide) ?_
    exact a_iret dX10_largest_82 rfl (Nat.le_of_ble_eq_true rfl) (Nat.le_of_ble_eq_true rfl) h
  · replace h := h.2 c1
    refine a_aload_n (k := 0) dX10_largest_46 rfl rfl ?_
    refine a_iload_n (k := 1) dX10_largest_47 rfl rfl ?_
    refine a_iload_n (k := 2) dX10_largest_48 rfl rfl ?_
    refine a_iload (k := 4) dX10_largest_49 rfl ?_
    refine a_iconst dX10_largest_51 (by decide) ?_
    refine k_X10_216 rfl dX10_largest_52 (Nat.le_of_ble_eq_true rfl) rfl (Nat.le_of_ble_eq_true rfl) (Nat.le_of_ble_eq_true rfl) (St_ho hg St_0) h (fun x2 n3 μ4 h => ?_)
    refine b_istore (L' := [(0, .inr 0), (1, .inl v1), (2, .inl v2), (4, .inl v4), (5, .inl v5), (6, .inl x2)]) [1, 2, 3, 4, 5, 0] dX10_largest_55 (Nat.le_of_ble_eq_true rfl) rfl ?_
    refine a_iload (k := 5) dX10_largest_57 rfl ?_
    refine a_bipush dX10_largest_59 (by decide) (by decide) ?_
    refine a_icmp_eq (tgt := 74) dX10_largest_61 (by decide) (fun c5 => ?_) (fun c5 => ?_)
    · replace h := h.1 c5
      obtain ⟨q6, h⟩ := h
      refine b_iinc (L' := [(0, .inr 0), (1, .inl v1), (2, .inl v2), (4, .inl v4), (5, .inl (v5 + (-1))), (6, .inl x2)]) (k := 4) [1, 2, 3, 4, 0, 5] dX10_largest_74 rfl q6 (Nat.le_of_ble_eq_true rfl) rfl ?_
      refine a_goto (tgt := 40) dX10_largest_77 (by decide) ?_
      refine a_sub [0, 1, 2, 3, 4] rfl ?_
      exact h
    · replace h := h.2 c5
      refine a_iload (k := 5) dX10_largest_64 rfl ?_
      refine a_iload (k := 3) dX10_largest_66 rfl ?_
      refine a_icmp_gt (tgt := 74) dX10_largest_68 (by decide) (fun c7 => ?_) (fun c7 => ?_)
      · replace h := h.1 c7
        obtain ⟨q8, h⟩ := h
        refine b_iinc (L' := [(0, .inr 0), (1, .inl v1), (2, .inl v2), (4, .inl v4), (5, .inl (v5 + (-1))), (6, .inl x2)]) (k := 4) [1, 2, 3, 4, 0, 5] dX10_largest_74 rfl q8 (Nat.le_of_ble_eq_true rfl) rfl ?_
        refine a_goto (tgt := 40) dX10_largest_77 (by decide) ?_
        refine a_sub [0, 1, 2, 3, 4] rfl ?_
        exact h
      · replace h := h.2 c7
        refine a_iload (k := 4) dX10_largest_71 rfl ?_
        exact a_iret dX10_largest_73 rfl (Nat.le_of_ble_eq_true rfl) (Nat.le_of_ble_eq_true rfl) h
abbrev B_X10_worst_7 (G : GT) (Q : Int → Nat → Mem → Prop) (n : Nat) (μ : Mem) (v1 : Int) (v2 : Int) (v3 : Int) : Prop := Wa G Y_X10_worst (ZI G Y_X10_worst Q) 0 0 n μ 7 [(0, .inr 0), (1, .inl v1), (2, .inl v2), (3, .inl v3)] []
theorem m_X10_worst {G : GT} (hg : gx G = FX) {n : Nat} {μ : Mem} {Q : Int → Nat → Mem → Prop}  (h : (B_X10_worst_7 G Q n μ (-9) (-1) 0)) : CI G Y_X10_worst [.inr 0] n μ Q := by
  refine e_I (by decide) (Nat.le_of_ble_eq_true rfl) ?_
  show Wa G Y_X10_worst (ZI G Y_X10_worst Q) 0 0 n μ 0 [(0, .inr 0)] []
  refine a_bipush dX10_worst_0 (by decide) (by decide) ?_
  refine b_istore_n (L' := [(0, .inr 0), (1, .inl (-9))]) [1, 0] dX10_worst_2 rfl (Nat.le_of_ble_eq_true rfl) rfl ?_
  refine a_iconst dX10_worst_3 (by decide) ?_
  refine b_istore_n (L' := [(0, .inr 0), (1, .inl (-9)), (2, .inl (-1))]) [1, 2, 0] dX10_worst_4 rfl (Nat.le_of_ble_eq_true rfl) rfl ?_
  refine a_iconst dX10_worst_5 (by decide) ?_
  refine b_istore_n (L' := [(0, .inr 0), (1, .inl (-9)), (2, .inl (-1)), (3, .inl 0)]) [1, 2, 3, 0] dX10_worst_6 rfl (Nat.le_of_ble_eq_true rfl) rfl ?_
  exact h
theorem b_X10_worst_7 {G : GT} (hg : gx G = FX) {n : Nat} {μ : Mem} {Q : Int → Nat → Mem → Prop} {v1 v2 v3 : Int}  (h : (((μ 7 2) ≤ v3 → (Q v1 n μ)) ∧ (¬ ((μ 7 2) ≤ v3) → (CI G Y_X7_isMissed [.inr 18, .inl v3] n μ (fun (x2 : Int) (n3 : Nat) (μ4 : Mem) => ((¬ (x2 = 0) → ((inR (v3 + 1)) ∧ (B_X10_worst_7 G Q n3 μ4 v1 v2 (v3 + 1)))) ∧ (x2 = 0 → (CV G Y_X7_copyFrom [.inr 47, .inr 18] n3 μ4 (fun (n8 : Nat) (μ9 : Mem) => (CI G Y_X7_lose [.inr 47, .inl v3] n8 μ9 (fun (x10 : Int) (n11 : Nat) (μ12 : Mem) => (CV G Y_X5_planAll [.inr 17, .inr 47, .inl x10] n11 μ12 (fun (n14 : Nat) (μ15 : Mem) => (CI G Y_X7_countStanding [.inr 47, .inl 0] n14 μ15 (fun (x16 : Int) (n17 : Nat) (μ18 : Mem) => ((x16 ≤ v2 → ((inR (v3 + 1)) ∧ (B_X10_worst_7 G Q n17 μ18 v1 v2 (v3 + 1)))) ∧ (¬ (x16 ≤ v2) → ((inR (v3 + 1)) ∧ (B_X10_worst_7 G Q n17 μ18 v3 x16 (v3 + 1)))))))))))))))))))) : B_X10_worst_7 G Q n μ v1 v2 v3 := by
  show Wa G Y_X10_worst (ZI G Y_X10_worst Q) 0 0 n μ 7 [(0, .inr 0), (1, .inl v1), (2, .inl v2), (3, .inl v3)] []
  refine a_iload_n (k := 3) dX10_worst_7 rfl rfl ?_
  refine a_aload_n (k := 0) dX10_worst_8 rfl rfl ?_
  refine gs_X10_28 rfl dX10_worst_9 hg St_0 ?_
  refine g_X10_220 rfl dX10_worst_12 (St_ho hg St_7) ?_
  refine a_icmp_ge (tgt := 86) dX10_worst_15 (by decide) (fun c1 => ?_) (fun c1 => ?_)
  · replace h := h.1 c1
    refine a_iload_n (k := 1) dX10_worst_86 rfl rfl ?_
    exact a_iret dX10_worst_87 rfl (Nat.le_of_ble_eq_true rfl) (Nat.le_of_ble_eq_true rfl) h
  · replace h := h.2 c1
    refine a_aload_n (k := 0) dX10_worst_18 rfl rfl ?_
    refine gs_X10_53 rfl dX10_worst_19 hg St_0 ?_
    refine a_iload_n (k := 3) dX10_worst_22 rfl rfl ?_
    refine k_X10_127 rfl dX10_worst_23 (Nat.le_of_ble_eq_true rfl) rfl (Nat.le_of_ble_eq_true rfl) (Nat.le_of_ble_eq_true rfl) (St_ho hg St_18) h (fun x2 n3 μ4 h => ?_)
    refine a_if_ne (tgt := 80) dX10_worst_26 (by decide) (fun c5 => ?_) (fun c5 => ?_)
    · replace h := h.1 c5
      obtain ⟨q6, h⟩ := h
      refine b_iinc (L' := [(0, .inr 0), (1, .inl v1), (2, .inl v2), (3, .inl (v3 + 1))]) (k := 3) [1, 2, 3, 0] dX10_worst_80 rfl q6 (Nat.le_of_ble_eq_true rfl) rfl ?_
      refine a_goto (tgt := 7) dX10_worst_83 (by decide) ?_
      exact h
    · replace h := h.2 c5
      refine a_aload_n (k := 0) dX10_worst_29 rfl rfl ?_
      refine gs_X10_57 rfl dX10_worst_30 hg St_0 ?_
      refine a_aload_n (k := 0) dX10_worst_33 rfl rfl ?_
      refine gs_X10_53 rfl dX10_worst_34 hg St_0 ?_
      refine k_X10_223 rfl dX10_worst_37 (Nat.le_of_ble_eq_true rfl) rfl (Nat.le_of_ble_eq_true rfl) (Nat.le_of_ble_eq_true rfl) (St_ho hg St_47) h (fun n8 μ9 h => ?_)
      refine a_aload_n (k := 0) dX10_worst_40 rfl rfl ?_
      refine gs_X10_46 rfl dX10_worst_41 hg St_0 ?_
      refine a_aload_n (k := 0) dX10_worst_44 rfl rfl ?_
      refine gs_X10_57 rfl dX10_worst_45 hg St_0 ?_
      refine a_aload_n (k := 0) dX10_worst_48 rfl rfl ?_
      refine gs_X10_57 rfl dX10_worst_49 hg St_0 ?_
      refine a_iload_n (k := 3) dX10_worst_52 rfl rfl ?_
      refine k_X10_186 rfl dX10_worst_53 (Nat.le_of_ble_eq_true rfl) rfl (Nat.le_of_ble_eq_true rfl) (Nat.le_of_ble_eq_true rfl) (St_ho hg St_47) h (fun x10 n11 μ12 h => ?_)
      refine k_X10_167 rfl dX10_worst_56 (Nat.le_of_ble_eq_true rfl) rfl (Nat.le_of_ble_eq_true rfl) (Nat.le_of_ble_eq_true rfl) (St_ho hg St_17) h (fun n14 μ15 h => ?_)
      refine a_aload_n (k := 0) dX10_worst_59 rfl rfl ?_
      refine gs_X10_57 rfl dX10_worst_60 hg St_0 ?_
      refine a_iconst dX10_worst_63 (by decide) ?_
      refine k_X10_189 rfl dX10_worst_64 (Nat.le_of_ble_eq_true rfl) rfl (Nat.le_of_ble_eq_true rfl) (Nat.le_of_ble_eq_true rfl) (St_ho hg St_47) h (fun x16 n17 μ18 h => ?_)
      refine b_istore (L' := [(0, .inr 0), (1, .inl v1), (2, .inl v2), (3, .inl v3), (4, .inl x16)]) [1, 2, 3, 4, 0] dX10_worst_67 (Nat.le_of_ble_eq_true rfl) rfl ?_
      refine a_iload (k := 4) dX10_worst_69 rfl ?_
      refine a_iload_n (k := 2) dX10_worst_71 rfl rfl ?_
      refine a_icmp_le (tgt := 80) dX10_worst_72 (by decide) (fun c19 => ?_) (fun c19 => ?_)
      · replace h := h.1 c19
        obtain ⟨q20, h⟩ := h
        refine b_iinc (L' := [(0, .inr 0), (1, .inl v1), (2, .inl v2), (3, .inl (v3 + 1)), (4, .inl x16)]) (k := 3) [1, 2, 3, 0, 4] dX10_worst_80 rfl q20 (Nat.le_of_ble_eq_true rfl) rfl ?_
        refine a_goto (tgt := 7) dX10_worst_83 (by decide) ?_
        refine a_sub [0, 1, 2, 3] rfl ?_
        exact h
      · replace h := h.2 c19
        refine a_iload (k := 4) dX10_worst_75 rfl ?_
        refine b_istore_n (L' := [(0, .inr 0), (1, .inl v1), (2, .inl x16), (3, .inl v3), (4, .inl x16)]) [1, 2, 0, 3, 4] dX10_worst_77 rfl (Nat.le_of_ble_eq_true rfl) rfl ?_
        refine a_iload_n (k := 3) dX10_worst_78 rfl rfl ?_
        refine b_istore_n (L' := [(0, .inr 0), (1, .inl v3), (2, .inl x16), (3, .inl v3), (4, .inl x16)]) [1, 0, 2, 3, 4] dX10_worst_79 rfl (Nat.le_of_ble_eq_true rfl) rfl ?_
        obtain ⟨q21, h⟩ := h
        refine b_iinc (L' := [(0, .inr 0), (1, .inl v3), (2, .inl x16), (3, .inl (v3 + 1)), (4, .inl x16)]) (k := 3) [1, 2, 3, 0, 4] dX10_worst_80 rfl q21 (Nat.le_of_ble_eq_true rfl) rfl ?_
        refine a_goto (tgt := 7) dX10_worst_83 (by decide) ?_
        refine a_sub [0, 1, 2, 3] rfl ?_
        exact h
theorem m_X10_sees {G : GT} (hg : gx G = FX) {n : Nat} {μ : Mem} {Q : Int → Nat → Mem → Prop} {v1 v2 v3 : Int}  (h : (CI G Y_X3_hasNode [.inr 7, .inl v1] n μ (fun (x1 : Int) (n2 : Nat) (μ3 : Mem) => ((x1 = 0 → (Q (-1) n2 μ3)) ∧ (¬ (x1 = 0) → (CI G Y_X3_hasNode [.inr 7, .inl v2] n2 μ3 (fun (x5 : Int) (n6 : Nat) (μ7 : Mem) => ((x5 = 0 → (Q (-1) n6 μ7)) ∧ (¬ (x5 = 0) → ((v1 = v2 → (Q (-1) n6 μ7)) ∧ (¬ (v1 = v2) → (CI G Y_X10_isWithin [.inl v3, .inl 0, .inl 121] n6 μ7 (fun (x10 : Int) (n11 : Nat) (μ12 : Mem) => ((¬ (x10 = 0) → (((μ12 397 2) < 6 → (CI G Y_X8_addRow [.inr 397] n11 μ12 (fun (x15 : Int) (n16 : Nat) (μ17 : Mem) => (CV G Y_X8_put [.inr 397, .inl x15, .inl 0, .inl v1] n16 μ17 (fun (n19 : Nat) (μ20 : Mem) => (CV G Y_X8_put [.inr 397, .inl x15, .inl 1, .inl v2] n19 μ20 (fun (n22 : Nat) (μ23 : Mem) => (CV G Y_X8_put [.inr 397, .inl x15, .inl 2, .inl v3] n22 μ23 (fun (n25 : Nat) (μ26 : Mem) => (Q (μ26 397 2) n25 μ26)))))))))) ∧ (¬ ((μ12 397 2) < 6) → (Q (-3) n11 μ12)))) ∧ (x10 = 0 → (Q (-1) n11 μ12)))))))))))))))) : CI G Y_X10_sees [.inr 0, .inl v1, .inl v2, .inl v3] n μ Q := by
  refine e_I (by decide) (Nat.le_of_ble_eq_true rfl) ?_
  show Wa G Y_X10_sees (ZI G Y_X10_sees Q) 0 0 n μ 0 [(0, .inr 0), (1, .inl v1), (2, .inl v2), (3, .inl v3)] []
  refine a_aload_n (k := 0) dX10_sees_0 rfl rfl ?_
  refine gs_X10_28 rfl dX10_sees_1 hg St_0 ?_
  refine a_iload_n (k := 1) dX10_sees_4 rfl rfl ?_
  refine k_X10_225 rfl dX10_sees_5 (Nat.le_of_ble_eq_true rfl) rfl (Nat.le_of_ble_eq_true rfl) (Nat.le_of_ble_eq_true rfl) (St_ho hg St_7) h (fun x1 n2 μ3 h => ?_)
  refine a_if_eq (tgt := 37) dX10_sees_8 (by decide) (fun c4 => ?_) (fun c4 => ?_)
  · replace h := h.1 c4
    refine a_iconst dX10_sees_37 (by decide) ?_
    exact a_iret dX10_sees_38 rfl (Nat.le_of_ble_eq_true rfl) (Nat.le_of_ble_eq_true rfl) h
  · replace h := h.2 c4
    refine a_aload_n (k := 0) dX10_sees_11 rfl rfl ?_
    refine gs_X10_28 rfl dX10_sees_12 hg St_0 ?_
    refine a_iload_n (k := 2) dX10_sees_15 rfl rfl ?_
    refine k_X10_225 rfl dX10_sees_16 (Nat.le_of_ble_eq_true rfl) rfl (Nat.le_of_ble_eq_true rfl) (Nat.le_of_ble_eq_true rfl) (St_ho hg St_7) h (fun x5 n6 μ7 h => ?_)
    refine a_if_eq (tgt := 37) dX10_sees_19 (by decide) (fun c8 => ?_) (fun c8 => ?_)
    · replace h := h.1 c8
      refine a_iconst dX10_sees_37 (by decide) ?_
      exact a_iret dX10_sees_38 rfl (Nat.le_of_ble_eq_true rfl) (Nat.le_of_ble_eq_true rfl) h
    · replace h := h.2 c8
      refine a_iload_n (k := 1) dX10_sees_22 rfl rfl ?_
      refine a_iload_n (k := 2) dX10_sees_23 rfl rfl ?_
      refine a_icmp_eq (tgt := 37) dX10_sees_24 (by decide) (fun c9 => ?_) (fun c9 => ?_)
      · replace h := h.1 c9
        refine a_iconst dX10_sees_37 (by decide) ?_
        exact a_iret dX10_sees_38 rfl (Nat.le_of_ble_eq_true rfl) (Nat.le_of_ble_eq_true rfl) h
      · replace h := h.2 c9
        refine a_iload_n (k := 3) dX10_sees_27 rfl rfl ?_
        refine a_iconst dX10_sees_28 (by decide) ?_
        refine a_bipush dX10_sees_29 (by decide) (by decide) ?_
        refine k_X10_86 rfl dX10_sees_31 (Nat.le_of_ble_eq_true rfl) rfl (Nat.le_of_ble_eq_true rfl) (Nat.le_of_ble_eq_true rfl) h (fun x10 n11 μ12 h => ?_)
        refine a_if_ne (tgt := 39) dX10_sees_34 (by decide) (fun c13 => ?_) (fun c13 => ?_)
        · replace h := h.1 c13
          refine a_aload_n (k := 0) dX10_sees_39 rfl rfl ?_
          refine gs_X10_78 rfl dX10_sees_40 hg St_0 ?_
          refine g_X10_228 rfl dX10_sees_43 (St_ho hg St_397) ?_
          refine a_bipush dX10_sees_46 (by decide) (by decide) ?_
          refine a_icmp_lt (tgt := 54) dX10_sees_48 (by decide) (fun c14 => ?_) (fun c14 => ?_)
          · replace h := h.1 c14
            refine a_aload_n (k := 0) dX10_sees_54 rfl rfl ?_
            refine gs_X10_78 rfl dX10_sees_55 hg St_0 ?_
            refine k_X10_231 rfl dX10_sees_58 (Nat.le_of_ble_eq_true rfl) rfl (Nat.le_of_ble_eq_true rfl) (Nat.le_of_ble_eq_true rfl) (St_ho hg St_397) h (fun x15 n16 μ17 h => ?_)
            refine b_istore (L' := [(0, .inr 0), (1, .inl v1), (2, .inl v2), (3, .inl v3), (4, .inl x15)]) [1, 2, 3, 4, 0] dX10_sees_61 (Nat.le_of_ble_eq_true rfl) rfl ?_
            refine a_aload_n (k := 0) dX10_sees_63 rfl rfl ?_
            refine gs_X10_78 rfl dX10_sees_64 hg St_0 ?_
            refine a_iload (k := 4) dX10_sees_67 rfl ?_
            refine a_iconst dX10_sees_69 (by decide) ?_
            refine a_iload_n (k := 1) dX10_sees_70 rfl rfl ?_
            refine k_X10_234 rfl dX10_sees_71 (Nat.le_of_ble_eq_true rfl) rfl (Nat.le_of_ble_eq_true rfl) (Nat.le_of_ble_eq_true rfl) (St_ho hg St_397) h (fun n19 μ20 h => ?_)
            refine a_aload_n (k := 0) dX10_sees_74 rfl rfl ?_
            refine gs_X10_78 rfl dX10_sees_75 hg St_0 ?_
            refine a_iload (k := 4) dX10_sees_78 rfl ?_
            refine a_iconst dX10_sees_80 (by decide) ?_
            refine a_iload_n (k := 2) dX10_sees_81 rfl rfl ?_
            refine k_X10_234 rfl dX10_sees_82 (Nat.le_of_ble_eq_true rfl) rfl (Nat.le_of_ble_eq_true rfl) (Nat.le_of_ble_eq_true rfl) (St_ho hg St_397) h (fun n22 μ23 h => ?_)
            refine a_aload_n (k := 0) dX10_sees_85 rfl rfl ?_
            refine gs_X10_78 rfl dX10_sees_86 hg St_0 ?_
            refine a_iload (k := 4) dX10_sees_89 rfl ?_
            refine a_iconst dX10_sees_91 (by decide) ?_
            refine a_iload_n (k := 3) dX10_sees_92 rfl rfl ?_
            refine k_X10_234 rfl dX10_sees_93 (Nat.le_of_ble_eq_true rfl) rfl (Nat.le_of_ble_eq_true rfl) (Nat.le_of_ble_eq_true rfl) (St_ho hg St_397) h (fun n25 μ26 h => ?_)
            refine a_aload_n (k := 0) dX10_sees_96 rfl rfl ?_
            refine gs_X10_78 rfl dX10_sees_97 hg St_0 ?_
            refine g_X10_228 rfl dX10_sees_100 (St_ho hg St_397) ?_
            exact a_iret dX10_sees_103 rfl (Nat.le_of_ble_eq_true rfl) (Nat.le_of_ble_eq_true rfl) h
          · replace h := h.2 c14
            refine a_bipush dX10_sees_51 (by decide) (by decide) ?_
            exact a_iret dX10_sees_53 rfl (Nat.le_of_ble_eq_true rfl) (Nat.le_of_ble_eq_true rfl) h
        · replace h := h.2 c13
          refine a_iconst dX10_sees_37 (by decide) ?_
          exact a_iret dX10_sees_38 rfl (Nat.le_of_ble_eq_true rfl) (Nat.le_of_ble_eq_true rfl) h
theorem m_X10_forget {G : GT} (hg : gx G = FX) {n : Nat} {μ : Mem} {Q : Int → Nat → Mem → Prop}  (h : (CV G Y_X8_cut [.inr 397, .inl 0] n μ (fun (n2 : Nat) (μ3 : Mem) => (Q (μ 397 2) n2 μ3)))) : CI G Y_X10_forget [.inr 0] n μ Q := by
  refine e_I (by decide) (Nat.le_of_ble_eq_true rfl) ?_
  show Wa G Y_X10_forget (ZI G Y_X10_forget Q) 0 0 n μ 0 [(0, .inr 0)] []
  refine a_aload_n (k := 0) dX10_forget_0 rfl rfl ?_
  refine gs_X10_78 rfl dX10_forget_1 hg St_0 ?_
  refine g_X10_228 rfl dX10_forget_4 (St_ho hg St_397) ?_
  refine b_istore_n (L' := [(0, .inr 0), (1, .inl (μ 397 2))]) [1, 0] dX10_forget_7 rfl (Nat.le_of_ble_eq_true rfl) rfl ?_
  refine a_aload_n (k := 0) dX10_forget_8 rfl rfl ?_
  refine gs_X10_78 rfl dX10_forget_9 hg St_0 ?_
  refine a_iconst dX10_forget_12 (by decide) ?_
  refine k_X10_120 rfl dX10_forget_13 (Nat.le_of_ble_eq_true rfl) rfl (Nat.le_of_ble_eq_true rfl) (Nat.le_of_ble_eq_true rfl) (St_ho hg St_397) h (fun n2 μ3 h => ?_)
  refine a_iload_n (k := 1) dX10_forget_16 rfl rfl ?_
  exact a_iret dX10_forget_17 rfl (Nat.le_of_ble_eq_true rfl) (Nat.le_of_ble_eq_true rfl) h
abbrev B_X10_unseen_16 (G : GT) (Q : Int → Nat → Mem → Prop) (n : Nat) (μ : Mem) (v1 : Int) (v2 : Int) : Prop := Wa G Y_X10_unseen (ZI G Y_X10_unseen Q) 0 0 n μ 16 [(0, .inr 0), (1, .inl v1), (2, .inl v2)] []
theorem m_X10_unseen {G : GT} (hg : gx G = FX) {n : Nat} {μ : Mem} {Q : Int → Nat → Mem → Prop}  (h : (CV G Y_X6_lookAt [.inr 10, .inr 18, .inl 2] n μ (fun (n2 : Nat) (μ3 : Mem) => (B_X10_unseen_16 G Q n2 μ3 0 0)))) : CI G Y_X10_unseen [.inr 0] n μ Q := by
  refine e_I (by decide) (Nat.le_of_ble_eq_true rfl) ?_
  show Wa G Y_X10_unseen (ZI G Y_X10_unseen Q) 0 0 n μ 0 [(0, .inr 0)] []
  refine a_aload_n (k := 0) dX10_unseen_0 rfl rfl ?_
  refine gs_X10_37 rfl dX10_unseen_1 hg St_0 ?_
  refine a_aload_n (k := 0) dX10_unseen_4 rfl rfl ?_
  refine gs_X10_53 rfl dX10_unseen_5 hg St_0 ?_
  refine a_iconst dX10_unseen_8 (by decide) ?_
  refine k_X10_213 rfl dX10_unseen_9 (Nat.le_of_ble_eq_true rfl) rfl (Nat.le_of_ble_eq_true rfl) (Nat.le_of_ble_eq_true rfl) (St_ho hg St_10) h (fun n2 μ3 h => ?_)
  refine a_iconst dX10_unseen_12 (by decide) ?_
  refine b_istore_n (L' := [(0, .inr 0), (1, .inl 0)]) [1, 0] dX10_unseen_13 rfl (Nat.le_of_ble_eq_true rfl) rfl ?_
  refine a_iconst dX10_unseen_14 (by decide) ?_
  refine b_istore_n (L' := [(0, .inr 0), (1, .inl 0), (2, .inl 0)]) [1, 2, 0] dX10_unseen_15 rfl (Nat.le_of_ble_eq_true rfl) rfl ?_
  exact h
theorem b_X10_unseen_16 {G : GT} (hg : gx G = FX) {n : Nat} {μ : Mem} {Q : Int → Nat → Mem → Prop} {v1 v2 : Int}  (h : (((μ 7 2) ≤ v2 → (Q v1 n μ)) ∧ (¬ ((μ 7 2) ≤ v2) → (CI G Y_X7_isMissed [.inr 18, .inl v2] n μ (fun (x2 : Int) (n3 : Nat) (μ4 : Mem) => ((¬ (x2 = 0) → ((inR (v2 + 1)) ∧ (B_X10_unseen_16 G Q n3 μ4 v1 (v2 + 1)))) ∧ (x2 = 0 → (CI G Y_X10_explainsAll [.inr 0, .inl v2] n3 μ4 (fun (x7 : Int) (n8 : Nat) (μ9 : Mem) => ((x7 = 0 → ((inR (v2 + 1)) ∧ (B_X10_unseen_16 G Q n8 μ9 v1 (v2 + 1)))) ∧ (¬ (x7 = 0) → ((inR (v2 + 1)) ∧ (B_X10_unseen_16 G Q n8 μ9 (iOr v1 (iShl 1 v2)) (v2 + 1)))))))))))))) : B_X10_unseen_16 G Q n μ v1 v2 := by
  show Wa G Y_X10_unseen (ZI G Y_X10_unseen Q) 0 0 n μ 16 [(0, .inr 0), (1, .inl v1), (2, .inl v2)] []
  refine a_iload_n (k := 2) dX10_unseen_16 rfl rfl ?_
  refine a_aload_n (k := 0) dX10_unseen_17 rfl rfl ?_
  refine gs_X10_28 rfl dX10_unseen_18 hg St_0 ?_
  refine g_X10_220 rfl dX10_unseen_21 (St_ho hg St_7) ?_
  refine a_icmp_ge (tgt := 58) dX10_unseen_24 (by decide) (fun c1 => ?_) (fun c1 => ?_)
  · replace h := h.1 c1
    refine a_iload_n (k := 1) dX10_unseen_58 rfl rfl ?_
    exact a_iret dX10_unseen_59 rfl (Nat.le_of_ble_eq_true rfl) (Nat.le_of_ble_eq_true rfl) h
  · replace h := h.2 c1
    refine a_aload_n (k := 0) dX10_unseen_27 rfl rfl ?_
    refine gs_X10_53 rfl dX10_unseen_28 hg St_0 ?_
    refine a_iload_n (k := 2) dX10_unseen_31 rfl rfl ?_
    refine k_X10_127 rfl dX10_unseen_32 (Nat.le_of_ble_eq_true rfl) rfl (Nat.le_of_ble_eq_true rfl) (Nat.le_of_ble_eq_true rfl) (St_ho hg St_18) h (fun x2 n3 μ4 h => ?_)
    refine a_if_ne (tgt := 52) dX10_unseen_35 (by decide) (fun c5 => ?_) (fun c5 => ?_)
    · replace h := h.1 c5
      obtain ⟨q6, h⟩ := h
      refine b_iinc (L' := [(0, .inr 0), (1, .inl v1), (2, .inl (v2 + 1))]) (k := 2) [1, 2, 0] dX10_unseen_52 rfl q6 (Nat.le_of_ble_eq_true rfl) rfl ?_
      refine a_goto (tgt := 16) dX10_unseen_55 (by decide) ?_
      exact h
    · replace h := h.2 c5
      refine a_aload_n (k := 0) dX10_unseen_38 rfl rfl ?_
      refine a_iload_n (k := 2) dX10_unseen_39 rfl rfl ?_
      refine k_X10_238 rfl dX10_unseen_40 (Nat.le_of_ble_eq_true rfl) rfl (Nat.le_of_ble_eq_true rfl) (Nat.le_of_ble_eq_true rfl) (St_ho hg St_0) h (fun x7 n8 μ9 h => ?_)
      refine a_if_eq (tgt := 52) dX10_unseen_43 (by decide) (fun c10 => ?_) (fun c10 => ?_)
      · replace h := h.1 c10
        obtain ⟨q11, h⟩ := h
        refine b_iinc (L' := [(0, .inr 0), (1, .inl v1), (2, .inl (v2 + 1))]) (k := 2) [1, 2, 0] dX10_unseen_52 rfl q11 (Nat.le_of_ble_eq_true rfl) rfl ?_
        refine a_goto (tgt := 16) dX10_unseen_55 (by decide) ?_
        exact h
      · replace h := h.2 c10
        refine a_iload_n (k := 1) dX10_unseen_46 rfl rfl ?_
        refine a_iconst dX10_unseen_47 (by decide) ?_
        refine a_iload_n (k := 2) dX10_unseen_48 rfl rfl ?_
        refine a_ishl dX10_unseen_49 ?_
        refine a_ior dX10_unseen_50 ?_
        refine b_istore_n (L' := [(0, .inr 0), (1, .inl (iOr v1 (iShl 1 v2))), (2, .inl v2)]) [1, 0, 2] dX10_unseen_51 rfl (Nat.le_of_ble_eq_true rfl) rfl ?_
        obtain ⟨q12, h⟩ := h
        refine b_iinc (L' := [(0, .inr 0), (1, .inl (iOr v1 (iShl 1 v2))), (2, .inl (v2 + 1))]) (k := 2) [1, 2, 0] dX10_unseen_52 rfl q12 (Nat.le_of_ble_eq_true rfl) rfl ?_
        refine a_goto (tgt := 16) dX10_unseen_55 (by decide) ?_
        exact h
theorem m_X10_keep {G : GT} (hg : gx G = FX) {n : Nat} {μ : Mem} {Q : Int → Nat → Mem → Prop} {v1 : Int}  (h : (CI G Y_X10_isWithin [.inl v1, .inl 0, .inl 1] n μ (fun (x1 : Int) (n2 : Nat) (μ3 : Mem) => ((¬ (x1 = 0) → (CR G Y_X10_imageAt [.inr 0, .inl v1] n2 μ3 (fun (x5 : Int) (n6 : Nat) (μ7 : Mem) => (St x5 7 5) ∧ (CV G Y_X7_copyFrom [.inr x5, .inr 18] n6 μ7 (fun (n10 : Nat) (μ11 : Mem) => (Q ((up μ11 0 11 (iOr (μ11 0 11) (iShl 1 v1))) 18 2) n10 (up μ11 0 11 (iOr (μ11 0 11) (iShl 1 v1))))))))) ∧ (x1 = 0 → (Q (-1) n2 μ3)))))) : CI G Y_X10_keep [.inr 0, .inl v1] n μ Q := by
  refine e_I (by decide) (Nat.le_of_ble_eq_true rfl) ?_
  show Wa G Y_X10_keep (ZI G Y_X10_keep Q) 0 0 n μ 0 [(0, .inr 0), (1, .inl v1)] []
  refine a_iload_n (k := 1) dX10_keep_0 rfl rfl ?_
  refine a_iconst dX10_keep_1 (by decide) ?_
  refine a_iconst dX10_keep_2 (by decide) ?_
  refine k_X10_86 rfl dX10_keep_3 (Nat.le_of_ble_eq_true rfl) rfl (Nat.le_of_ble_eq_true rfl) (Nat.le_of_ble_eq_true rfl) h (fun x1 n2 μ3 h => ?_)
  refine a_if_ne (tgt := 11) dX10_keep_6 (by decide) (fun c4 => ?_) (fun c4 => ?_)
  · replace h := h.1 c4
    refine a_aload_n (k := 0) dX10_keep_11 rfl rfl ?_
    refine a_iload_n (k := 1) dX10_keep_12 rfl rfl ?_
    refine k_X10_241 rfl dX10_keep_13 (Nat.le_of_ble_eq_true rfl) rfl (Nat.le_of_ble_eq_true rfl) (Nat.le_of_ble_eq_true rfl) (St_ho hg St_0) h (fun x5 n6 μ7 _ h => ?_)
    obtain ⟨q8, h⟩ := h
    refine a_aload_n (k := 0) dX10_keep_16 rfl rfl ?_
    refine gs_X10_53 rfl dX10_keep_17 hg St_0 ?_
    refine k_X10_223 rfl dX10_keep_20 (Nat.le_of_ble_eq_true rfl) rfl (Nat.le_of_ble_eq_true rfl) (Nat.le_of_ble_eq_true rfl) (St_ho hg q8) h (fun n10 μ11 h => ?_)
    refine a_aload_n (k := 0) dX10_keep_23 rfl rfl ?_
    refine a_dup dX10_keep_24 ?_
    refine g_X10_82 rfl dX10_keep_25 (St_ho hg St_0) ?_
    refine a_iconst dX10_keep_28 (by decide) ?_
    refine a_iload_n (k := 1) dX10_keep_29 rfl rfl ?_
    refine a_ishl dX10_keep_30 ?_
    refine a_ior dX10_keep_31 ?_
    refine p_X10_82 rfl dX10_keep_32 (St_ho hg St_0) (FX_put hg St_0 rfl) ?_
    refine a_aload_n (k := 0) dX10_keep_35 rfl rfl ?_
    refine gs_X10_53 rfl dX10_keep_36 hg St_0 ?_
    refine g_X10_144 rfl dX10_keep_39 (St_ho hg St_18) ?_
    exact a_iret dX10_keep_42 rfl (Nat.le_of_ble_eq_true rfl) (Nat.le_of_ble_eq_true rfl) h
  · replace h := h.2 c4
    refine a_iconst dX10_keep_9 (by decide) ?_
    exact a_iret dX10_keep_10 rfl (Nat.le_of_ble_eq_true rfl) (Nat.le_of_ble_eq_true rfl) h
theorem m_X10_back {G : GT} (hg : gx G = FX) {n : Nat} {μ : Mem} {Q : Int → Nat → Mem → Prop} {v1 : Int}  (h : (CI G Y_X10_isWithin [.inl v1, .inl 0, .inl 1] n μ (fun (x1 : Int) (n2 : Nat) (μ3 : Mem) => ((¬ (x1 = 0) → ((¬ ((iAnd (iShr (μ3 0 11) v1) 1) = 0) → (CR G Y_X10_imageAt [.inr 0, .inl v1] n2 μ3 (fun (x6 : Int) (n7 : Nat) (μ8 : Mem) => (St x6 7 5) ∧ (CV G Y_X7_copyFrom [.inr 18, .inr x6] n7 μ8 (fun (n11 : Nat) (μ12 : Mem) => (CV G Y_X2_forgetAll [.inr 76] n11 μ12 (fun (n14 : Nat) (μ15 : Mem) => (Q (μ15 18 2) n14 μ15)))))))) ∧ ((iAnd (iShr (μ3 0 11) v1) 1) = 0 → (Q (-2) n2 μ3)))) ∧ (x1 = 0 → (Q (-1) n2 μ3)))))) : CI G Y_X10_back [.inr 0, .inl v1] n μ Q := by
  refine e_I (by decide) (Nat.le_of_ble_eq_true rfl) ?_
  show Wa G Y_X10_back (ZI G Y_X10_back Q) 0 0 n μ 0 [(0, .inr 0), (1, .inl v1)] []
  refine a_iload_n (k := 1) dX10_back_0 rfl rfl ?_
  refine a_iconst dX10_back_1 (by decide) ?_
  refine a_iconst dX10_back_2 (by decide) ?_
  refine k_X10_86 rfl dX10_back_3 (Nat.le_of_ble_eq_true rfl) rfl (Nat.le_of_ble_eq_true rfl) (Nat.le_of_ble_eq_true rfl) h (fun x1 n2 μ3 h => ?_)
  refine a_if_ne (tgt := 11) dX10_back_6 (by decide) (fun c4 => ?_) (fun c4 => ?_)
  · replace h := h.1 c4
    refine a_aload_n (k := 0) dX10_back_11 rfl rfl ?_
    refine g_X10_82 rfl dX10_back_12 (St_ho hg St_0) ?_
    refine a_iload_n (k := 1) dX10_back_15 rfl rfl ?_
    refine a_ishr dX10_back_16 ?_
    refine a_iconst dX10_back_17 (by decide) ?_
    refine a_iand dX10_back_18 ?_
    refine a_if_ne (tgt := 25) dX10_back_19 (by decide) (fun c5 => ?_) (fun c5 => ?_)
    · replace h := h.1 c5
      refine a_aload_n (k := 0) dX10_back_25 rfl rfl ?_
      refine gs_X10_53 rfl dX10_back_26 hg St_0 ?_
      refine a_aload_n (k := 0) dX10_back_29 rfl rfl ?_
      refine a_iload_n (k := 1) dX10_back_30 rfl rfl ?_
      refine k_X10_241 rfl dX10_back_31 (Nat.le_of_ble_eq_true rfl) rfl (Nat.le_of_ble_eq_true rfl) (Nat.le_of_ble_eq_true rfl) (St_ho hg St_0) h (fun x6 n7 μ8 _ h => ?_)
      obtain ⟨q9, h⟩ := h
      refine k_X10_223 rfl dX10_back_34 (Nat.le_of_ble_eq_true rfl) rfl (Nat.le_of_ble_eq_true rfl) (Nat.le_of_ble_eq_true rfl) (St_ho hg St_18) h (fun n11 μ12 h => ?_)
      refine a_aload_n (k := 0) dX10_back_37 rfl rfl ?_
      refine gs_X10_63 rfl dX10_back_38 hg St_0 ?_
      refine k_X10_117 rfl dX10_back_41 (Nat.le_of_ble_eq_true rfl) rfl (Nat.le_of_ble_eq_true rfl) (Nat.le_of_ble_eq_true rfl) (St_ho hg St_76) h (fun n14 μ15 h => ?_)
      refine a_aload_n (k := 0) dX10_back_44 rfl rfl ?_
      refine gs_X10_53 rfl dX10_back_45 hg St_0 ?_
      refine g_X10_144 rfl dX10_back_48 (St_ho hg St_18) ?_
      exact a_iret dX10_back_51 rfl (Nat.le_of_ble_eq_true rfl) (Nat.le_of_ble_eq_true rfl) h
    · replace h := h.2 c5
      refine a_bipush dX10_back_22 (by decide) (by decide) ?_
      exact a_iret dX10_back_24 rfl (Nat.le_of_ble_eq_true rfl) (Nat.le_of_ble_eq_true rfl) h
  · replace h := h.2 c4
    refine a_iconst dX10_back_9 (by decide) ?_
    exact a_iret dX10_back_10 rfl (Nat.le_of_ble_eq_true rfl) (Nat.le_of_ble_eq_true rfl) h
theorem m_X10_count {G : GT} (hg : gx G = FX) {n : Nat} {μ : Mem} {Q : Int → Nat → Mem → Prop} {v1 : Int}  (h : (((v1 < 0 ∨ 8 < v1) → (Q (-1) n μ)) ∧ (v1 = 0 → (Q (μ 7 3) n μ)) ∧ (v1 = 1 → (Q (μ 7 2) n μ)) ∧ (v1 = 2 → (Q (μ 18 2) n μ)) ∧ (v1 = 3 → (Q (μ 18 3) n μ)) ∧ (v1 = 4 → (CI G Y_X7_countStanding [.inr 18, .inl 0] n μ (fun (x4 : Int) (n5 : Nat) (μ6 : Mem) => (Q x4 n5 μ6)))) ∧ (v1 = 5 → (CI G Y_X7_countStanding [.inr 18, .inl 1] n μ (fun (x7 : Int) (n8 : Nat) (μ9 : Mem) => (Q x7 n8 μ9)))) ∧ (v1 = 6 → (Q (μ 397 2) n μ)) ∧ (v1 = 7 → (Q (μ 1 1) n μ)) ∧ (v1 = 8 → (Q (μ 76 3) n μ)))) : CI G Y_X10_count [.inr 0, .inl v1] n μ Q := by
  refine e_I (by decide) (Nat.le_of_ble_eq_true rfl) ?_
  show Wa G Y_X10_count (ZI G Y_X10_count Q) 0 0 n μ 0 [(0, .inr 0), (1, .inl v1)] []
  refine a_iload_n (k := 1) dX10_count_0 rfl rfl ?_
  refine a_table (tgt := 126) dX10_count_1 (by decide) (fun c1 c2 => ?_) (fun c1 => ?_)
  · rcases (show v1 = 0 ∨ v1 = 1 ∨ v1 = 2 ∨ v1 = 3 ∨ v1 = 4 ∨ v1 = 5 ∨ v1 = 6 ∨ v1 = 7 ∨ v1 = 8 by omega) with e3 | e3 | e3 | e3 | e3 | e3 | e3 | e3 | e3
    · replace h := h.2.1 e3
      refine ⟨51, 52, by rw [e3]; rfl, by decide, ?_⟩
      refine a_aload_n (k := 0) dX10_count_52 rfl rfl ?_
      refine gs_X10_28 rfl dX10_count_53 hg St_0 ?_
      refine g_X10_245 rfl dX10_count_56 (St_ho hg St_7) ?_
      exact a_iret dX10_count_59 rfl (Nat.le_of_ble_eq_true rfl) (Nat.le_of_ble_eq_true rfl) h
    · replace h := h.2.2.1 e3
      refine ⟨59, 60, by rw [e3]; rfl, by decide, ?_⟩
      refine a_aload_n (k := 0) dX10_count_60 rfl rfl ?_
      refine gs_X10_28 rfl dX10_count_61 hg St_0 ?_
      refine g_X10_220 rfl dX10_count_64 (St_ho hg St_7) ?_
      exact a_iret dX10_count_67 rfl (Nat.le_of_ble_eq_true rfl) (Nat.le_of_ble_eq_true rfl) h
    · replace h := h.2.2.2.1 e3
      refine ⟨67, 68, by rw [e3]; rfl, by decide, ?_⟩
      refine a_aload_n (k := 0) dX10_count_68 rfl rfl ?_
      refine gs_X10_53 rfl dX10_count_69 hg St_0 ?_
      refine g_X10_144 rfl dX10_count_72 (St_ho hg St_18) ?_
      exact a_iret dX10_count_75 rfl (Nat.le_of_ble_eq_true rfl) (Nat.le_of_ble_eq_true rfl) h
    · replace h := h.2.2.2.2.1 e3
      refine ⟨75, 76, by rw [e3]; rfl, by decide, ?_⟩
      refine a_aload_n (k := 0) dX10_count_76 rfl rfl ?_
      refine gs_X10_53 rfl dX10_count_77 hg St_0 ?_
      refine g_X10_177 rfl dX10_count_80 (St_ho hg St_18) ?_
      exact a_iret dX10_count_83 rfl (Nat.le_of_ble_eq_true rfl) (Nat.le_of_ble_eq_true rfl) h
    · replace h := h.2.2.2.2.2.1 e3
      refine ⟨83, 84, by rw [e3]; rfl, by decide, ?_⟩
      refine a_aload_n (k := 0) dX10_count_84 rfl rfl ?_
      refine gs_X10_53 rfl dX10_count_85 hg St_0 ?_
      refine a_iconst dX10_count_88 (by decide) ?_
      refine k_X10_189 rfl dX10_count_89 (Nat.le_of_ble_eq_true rfl) rfl (Nat.le_of_ble_eq_true rfl) (Nat.le_of_ble_eq_true rfl) (St_ho hg St_18) h (fun x4 n5 μ6 h => ?_)
      exact a_iret dX10_count_92 rfl (Nat.le_of_ble_eq_true rfl) (Nat.le_of_ble_eq_true rfl) h
    · replace h := h.2.2.2.2.2.2.1 e3
      refine ⟨92, 93, by rw [e3]; rfl, by decide, ?_⟩
      refine a_aload_n (k := 0) dX10_count_93 rfl rfl ?_
      refine gs_X10_53 rfl dX10_count_94 hg St_0 ?_
      refine a_iconst dX10_count_97 (by decide) ?_
      refine k_X10_189 rfl dX10_count_98 (Nat.le_of_ble_eq_true rfl) rfl (Nat.le_of_ble_eq_true rfl) (Nat.le_of_ble_eq_true rfl) (St_ho hg St_18) h (fun x7 n8 μ9 h => ?_)
      exact a_iret dX10_count_101 rfl (Nat.le_of_ble_eq_true rfl) (Nat.le_of_ble_eq_true rfl) h
    · replace h := h.2.2.2.2.2.2.2.1 e3
      refine ⟨101, 102, by rw [e3]; rfl, by decide, ?_⟩
      refine a_aload_n (k := 0) dX10_count_102 rfl rfl ?_
      refine gs_X10_78 rfl dX10_count_103 hg St_0 ?_
      refine g_X10_228 rfl dX10_count_106 (St_ho hg St_397) ?_
      exact a_iret dX10_count_109 rfl (Nat.le_of_ble_eq_true rfl) (Nat.le_of_ble_eq_true rfl) h
    · replace h := h.2.2.2.2.2.2.2.2.1 e3
      refine ⟨109, 110, by rw [e3]; rfl, by decide, ?_⟩
      refine a_aload_n (k := 0) dX10_count_110 rfl rfl ?_
      refine gs_X10_12 rfl dX10_count_111 hg St_0 ?_
      refine g_X10_98 rfl dX10_count_114 (St_ho hg St_1) ?_
      exact a_iret dX10_count_117 rfl (Nat.le_of_ble_eq_true rfl) (Nat.le_of_ble_eq_true rfl) h
    · replace h := h.2.2.2.2.2.2.2.2.2 e3
      refine ⟨117, 118, by rw [e3]; rfl, by decide, ?_⟩
      refine a_aload_n (k := 0) dX10_count_118 rfl rfl ?_
      refine gs_X10_63 rfl dX10_count_119 hg St_0 ?_
      refine g_X10_195 rfl dX10_count_122 (St_ho hg St_76) ?_
      exact a_iret dX10_count_125 rfl (Nat.le_of_ble_eq_true rfl) (Nat.le_of_ble_eq_true rfl) h
  · replace h := h.1 c1
    refine a_iconst dX10_count_126 (by decide) ?_
    exact a_iret dX10_count_127 rfl (Nat.le_of_ble_eq_true rfl) (Nat.le_of_ble_eq_true rfl) h
theorem m_X10_isWithin {G : GT} (hg : gx G = FX) {n : Nat} {μ : Mem} {Q : Int → Nat → Mem → Prop} {v0 v1 v2 : Int}  (h : ((v0 < v1 → (Q 0 n μ)) ∧ (¬ (v0 < v1) → ((v2 < v0 → (Q 0 n μ)) ∧ (¬ (v2 < v0) → (Q 1 n μ)))))) : CI G Y_X10_isWithin [.inl v0, .inl v1, .inl v2] n μ Q := by
  refine e_I (by decide) (Nat.le_of_ble_eq_true rfl) ?_
  show Wa G Y_X10_isWithin (ZI G Y_X10_isWithin Q) 0 0 n μ 0 [(0, .inl v0), (1, .inl v1), (2, .inl v2)] []
  refine a_iload_n (k := 0) dX10_isWithin_0 rfl rfl ?_
  refine a_iload_n (k := 1) dX10_isWithin_1 rfl rfl ?_
  refine a_icmp_lt (tgt := 14) dX10_isWithin_2 (by decide) (fun c1 => ?_) (fun c1 => ?_)
  · replace h := h.1 c1
    refine a_iconst dX10_isWithin_14 (by decide) ?_
    exact a_zret dX10_isWithin_15 rfl (Nat.le_of_ble_eq_true rfl) (Nat.le_of_ble_eq_true rfl) (by decide) h
  · replace h := h.2 c1
    refine a_iload_n (k := 0) dX10_isWithin_5 rfl rfl ?_
    refine a_iload_n (k := 2) dX10_isWithin_6 rfl rfl ?_
    refine a_icmp_gt (tgt := 14) dX10_isWithin_7 (by decide) (fun c2 => ?_) (fun c2 => ?_)
    · replace h := h.1 c2
      refine a_iconst dX10_isWithin_14 (by decide) ?_
      exact a_zret dX10_isWithin_15 rfl (Nat.le_of_ble_eq_true rfl) (Nat.le_of_ble_eq_true rfl) (by decide) h
    · replace h := h.2 c2
      refine a_iconst dX10_isWithin_10 (by decide) ?_
      refine a_goto (tgt := 15) dX10_isWithin_11 (by decide) ?_
      exact a_zret dX10_isWithin_15 rfl (Nat.le_of_ble_eq_true rfl) (Nat.le_of_ble_eq_true rfl) (by decide) h
theorem m_X10_isSendable {G : GT} (hg : gx G = FX) {n : Nat} {μ : Mem} {Q : Int → Nat → Mem → Prop} {v1 v2 v3 v4 : Int}  (h : (CI G Y_X3_hasNode [.inr 7, .inl v1] n μ (fun (x1 : Int) (n2 : Nat) (μ3 : Mem) => ((x1 = 0 → (Q 0 n2 μ3)) ∧ (¬ (x1 = 0) → (CI G Y_X3_hasNode [.inr 7, .inl v2] n2 μ3 (fun (x5 : Int) (n6 : Nat) (μ7 : Mem) => ((x5 = 0 → (Q 0 n6 μ7)) ∧ (¬ (x5 = 0) → (CI G Y_X10_isWithin [.inl v3, .inl 1, .inl 20] n6 μ7 (fun (x9 : Int) (n10 : Nat) (μ11 : Mem) => ((x9 = 0 → (Q 0 n10 μ11)) ∧ (¬ (x9 = 0) → (CI G Y_X10_isWithin [.inl v4, .inl 0, .inl 2] n10 μ11 (fun (x13 : Int) (n14 : Nat) (μ15 : Mem) => ((x13 = 0 → (Q 0 n14 μ15)) ∧ (¬ (x13 = 0) → (Q 1 n14 μ15)))))))))))))))))) : CI G Y_X10_isSendable [.inr 0, .inl v1, .inl v2, .inl v3, .inl v4] n μ Q := by
  refine e_I (by decide) (Nat.le_of_ble_eq_true rfl) ?_
  show Wa G Y_X10_isSendable (ZI G Y_X10_isSendable Q) 0 0 n μ 0 [(0, .inr 0), (1, .inl v1), (2, .inl v2), (3, .inl v3), (4, .inl v4)] []
  refine a_aload_n (k := 0) dX10_isSendable_0 rfl rfl ?_
  refine gs_X10_28 rfl dX10_isSendable_1 hg St_0 ?_
  refine a_iload_n (k := 1) dX10_isSendable_4 rfl rfl ?_
  refine k_X10_225 rfl dX10_isSendable_5 (Nat.le_of_ble_eq_true rfl) rfl (Nat.le_of_ble_eq_true rfl) (Nat.le_of_ble_eq_true rfl) (St_ho hg St_7) h (fun x1 n2 μ3 h => ?_)
  refine a_if_eq (tgt := 46) dX10_isSendable_8 (by decide) (fun c4 => ?_) (fun c4 => ?_)
  · replace h := h.1 c4
    refine a_iconst dX10_isSendable_46 (by decide) ?_
    exact a_zret dX10_isSendable_47 rfl (Nat.le_of_ble_eq_true rfl) (Nat.le_of_ble_eq_true rfl) (by decide) h
  · replace h := h.2 c4
    refine a_aload_n (k := 0) dX10_isSendable_11 rfl rfl ?_
    refine gs_X10_28 rfl dX10_isSendable_12 hg St_0 ?_
    refine a_iload_n (k := 2) dX10_isSendable_15 rfl rfl ?_
    refine k_X10_225 rfl dX10_isSendable_16 (Nat.le_of_ble_eq_true rfl) rfl (Nat.le_of_ble_eq_true rfl) (Nat.le_of_ble_eq_true rfl) (St_ho hg St_7) h (fun x5 n6 μ7 h => ?_)
    refine a_if_eq (tgt := 46) dX10_isSendable_19 (by decide) (fun c8 => ?_) (fun c8 => ?_)
    · replace h := h.1 c8
      refine a_iconst dX10_isSendable_46 (by decide) ?_
      exact a_zret dX10_isSendable_47 rfl (Nat.le_of_ble_eq_true rfl) (Nat.le_of_ble_eq_true rfl) (by decide) h
    · replace h := h.2 c8
      refine a_iload_n (k := 3) dX10_isSendable_22 rfl rfl ?_
      refine a_iconst dX10_isSendable_23 (by decide) ?_
      refine a_bipush dX10_isSendable_24 (by decide) (by decide) ?_
      refine k_X10_86 rfl dX10_isSendable_26 (Nat.le_of_ble_eq_true rfl) rfl (Nat.le_of_ble_eq_true rfl) (Nat.le_of_ble_eq_true rfl) h (fun x9 n10 μ11 h => ?_)
      refine a_if_eq (tgt := 46) dX10_isSendable_29 (by decide) (fun c12 => ?_) (fun c12 => ?_)
      · replace h := h.1 c12
        refine a_iconst dX10_isSendable_46 (by decide) ?_
        exact a_zret dX10_isSendable_47 rfl (Nat.le_of_ble_eq_true rfl) (Nat.le_of_ble_eq_true rfl) (by decide) h
      · replace h := h.2 c12
        refine a_iload (k := 4) dX10_isSendable_32 rfl ?_
        refine a_iconst dX10_isSendable_34 (by decide) ?_
        refine a_iconst dX10_isSendable_35 (by decide) ?_
        refine k_X10_86 rfl dX10_isSendable_36 (Nat.le_of_ble_eq_true rfl) rfl (Nat.le_of_ble_eq_true rfl) (Nat.le_of_ble_eq_true rfl) h (fun x13 n14 μ15 h => ?_)
        refine a_if_eq (tgt := 46) dX10_isSendable_39 (by decide) (fun c16 => ?_) (fun c16 => ?_)
        · replace h := h.1 c16
          refine a_iconst dX10_isSendable_46 (by decide) ?_
          exact a_zret dX10_isSendable_47 rfl (Nat.le_of_ble_eq_true rfl) (Nat.le_of_ble_eq_true rfl) (by decide) h
        · replace h := h.2 c16
          refine a_iconst dX10_isSendable_42 (by decide) ?_
          refine a_goto (tgt := 47) dX10_isSendable_43 (by decide) ?_
          exact a_zret dX10_isSendable_47 rfl (Nat.le_of_ble_eq_true rfl) (Nat.le_of_ble_eq_true rfl) (by decide) h
theorem m_X10_predict {G : GT} (hg : gx G = FX) {n : Nat} {μ : Mem} {Q : Int → Nat → Mem → Prop} {v1 v2 v3 v4 : Int}  (h : ((¬ (v1 = v2) → (CI G Y_X6_seek [.inr 10, .inl v1, .inl (μ 18 3), .inl v2, .inl v3, .inl v4] n μ (fun (x2 : Int) (n3 : Nat) (μ4 : Mem) => (Q x2 n3 μ4)))) ∧ (v1 = v2 → (Q (μ 18 3) n μ)))) : CI G Y_X10_predict [.inr 0, .inl v1, .inl v2, .inl v3, .inl v4] n μ Q := by
  refine e_I (by decide) (Nat.le_of_ble_eq_true rfl) ?_
  show Wa G Y_X10_predict (ZI G Y_X10_predict Q) 0 0 n μ 0 [(0, .inr 0), (1, .inl v1), (2, .inl v2), (3, .inl v3), (4, .inl v4)] []
  refine a_iload_n (k := 1) dX10_predict_0 rfl rfl ?_
  refine a_iload_n (k := 2) dX10_predict_1 rfl rfl ?_
  refine a_icmp_ne (tgt := 13) dX10_predict_2 (by decide) (fun c1 => ?_) (fun c1 => ?_)
  · replace h := h.1 c1
    refine a_aload_n (k := 0) dX10_predict_13 rfl rfl ?_
    refine gs_X10_37 rfl dX10_predict_14 hg St_0 ?_
    refine a_iload_n (k := 1) dX10_predict_17 rfl rfl ?_
    refine a_aload_n (k := 0) dX10_predict_18 rfl rfl ?_
    refine gs_X10_53 rfl dX10_predict_19 hg St_0 ?_
    refine g_X10_177 rfl dX10_predict_22 (St_ho hg St_18) ?_
    refine a_iload_n (k := 2) dX10_predict_25 rfl rfl ?_
    refine a_iload_n (k := 3) dX10_predict_26 rfl rfl ?_
    refine a_iload (k := 4) dX10_predict_27 rfl ?_
    refine k_X10_248 rfl dX10_predict_29 (Nat.le_of_ble_eq_true rfl) rfl (Nat.le_of_ble_eq_true rfl) (Nat.le_of_ble_eq_true rfl) (St_ho hg St_10) h (fun x2 n3 μ4 h => ?_)
    exact a_iret dX10_predict_32 rfl (Nat.le_of_ble_eq_true rfl) (Nat.le_of_ble_eq_true rfl) h
  · replace h := h.2 c1
    refine a_aload_n (k := 0) dX10_predict_5 rfl rfl ?_
    refine gs_X10_53 rfl dX10_predict_6 hg St_0 ?_
    refine g_X10_177 rfl dX10_predict_9 (St_ho hg St_18) ?_
    exact a_iret dX10_predict_12 rfl (Nat.le_of_ble_eq_true rfl) (Nat.le_of_ble_eq_true rfl) h
abbrev B_X10_explainsAll_2 (G : GT) (Q : Int → Nat → Mem → Prop) (n : Nat) (μ : Mem) (v1 : Int) (v2 : Int) : Prop := Wa G Y_X10_explainsAll (ZI G Y_X10_explainsAll Q) 0 0 n μ 2 [(0, .inr 0), (1, .inl v1), (2, .inl v2)] []
abbrev B_X10_explainsAll_35 (G : GT) (Q : Int → Nat → Mem → Prop) (n : Nat) (μ : Mem) (v1 : Int) (v2 : Int) (u0 : Int) : Prop := Wa G Y_X10_explainsAll (ZI G Y_X10_explainsAll Q) 0 0 n μ 35 [(0, .inr 0), (1, .inl v1), (2, .inl v2)] [.inl u0]
theorem m_X10_explainsAll {G : GT} (hg : gx G = FX) {n : Nat} {μ : Mem} {Q : Int → Nat → Mem → Prop} {v1 : Int}  (h : (B_X10_explainsAll_2 G Q n μ v1 0)) : CI G Y_X10_explainsAll [.inr 0, .inl v1] n μ Q := by
  refine e_I (by decide) (Nat.le_of_ble_eq_true rfl) ?_
  show Wa G Y_X10_explainsAll (ZI G Y_X10_explainsAll Q) 0 0 n μ 0 [(0, .inr 0), (1, .inl v1)] []
  refine a_iconst dX10_explainsAll_0 (by decide) ?_
  refine b_istore_n (L' := [(0, .inr 0), (1, .inl v1), (2, .inl 0)]) [1, 2, 0] dX10_explainsAll_1 rfl (Nat.le_of_ble_eq_true rfl) rfl ?_
  exact h
theorem b_X10_explainsAll_2 {G : GT} (hg : gx G = FX) {n : Nat} {μ : Mem} {Q : Int → Nat → Mem → Prop} {v1 v2 : Int}  (h : (((μ 397 2) ≤ v2 → (Q 1 n μ)) ∧ (¬ ((μ 397 2) ≤ v2) → (CI G Y_X8_at [.inr 397, .inl v2, .inl 2] n μ (fun (x2 : Int) (n3 : Nat) (μ4 : Mem) => ((¬ (x2 = 121) → (B_X10_explainsAll_35 G Q n3 μ4 v1 v2 x2)) ∧ (x2 = 121 → (B_X10_explainsAll_35 G Q n3 μ4 v1 v2 (-9))))))))) : B_X10_explainsAll_2 G Q n μ v1 v2 := by
  show Wa G Y_X10_explainsAll (ZI G Y_X10_explainsAll Q) 0 0 n μ 2 [(0, .inr 0), (1, .inl v1), (2, .inl v2)] []
  refine a_iload_n (k := 2) dX10_explainsAll_2 rfl rfl ?_
  refine a_aload_n (k := 0) dX10_explainsAll_3 rfl rfl ?_
  refine gs_X10_78 rfl dX10_explainsAll_4 hg St_0 ?_
  refine g_X10_228 rfl dX10_explainsAll_7 (St_ho hg St_397) ?_
  refine a_icmp_ge (tgt := 78) dX10_explainsAll_10 (by decide) (fun c1 => ?_) (fun c1 => ?_)
  · replace h := h.1 c1
    refine a_iconst dX10_explainsAll_78 (by decide) ?_
    exact a_zret dX10_explainsAll_79 rfl (Nat.le_of_ble_eq_true rfl) (Nat.le_of_ble_eq_true rfl) (by decide) h
  · replace h := h.2 c1
    refine a_aload_n (k := 0) dX10_explainsAll_13 rfl rfl ?_
    refine gs_X10_78 rfl dX10_explainsAll_14 hg St_0 ?_
    refine a_iload_n (k := 2) dX10_explainsAll_17 rfl rfl ?_
    refine a_iconst dX10_explainsAll_18 (by decide) ?_
    refine k_X10_207 rfl dX10_explainsAll_19 (Nat.le_of_ble_eq_true rfl) rfl (Nat.le_of_ble_eq_true rfl) (Nat.le_of_ble_eq_true rfl) (St_ho hg St_397) h (fun x2 n3 μ4 h => ?_)
    refine b_istore_n (L' := [(0, .inr 0), (1, .inl v1), (2, .inl v2), (3, .inl x2)]) [1, 2, 3, 0] dX10_explainsAll_22 rfl (Nat.le_of_ble_eq_true rfl) rfl ?_
    refine a_iload_n (k := 3) dX10_explainsAll_23 rfl rfl ?_
    refine a_bipush dX10_explainsAll_24 (by decide) (by decide) ?_
    refine a_icmp_ne (tgt := 34) dX10_explainsAll_26 (by decide) (fun c5 => ?_) (fun c5 => ?_)
    · replace h := h.1 c5
      refine a_iload_n (k := 3) dX10_explainsAll_34 rfl rfl ?_
      refine a_sub [0, 1, 2] rfl ?_
      exact h
    · replace h := h.2 c5
      refine a_bipush dX10_explainsAll_29 (by decide) (by decide) ?_
      refine a_goto (tgt := 35) dX10_explainsAll_31 (by decide) ?_
      refine a_sub [0, 1, 2] rfl ?_
      exact h
theorem b_X10_explainsAll_35 {G : GT} (hg : gx G = FX) {n : Nat} {μ : Mem} {Q : Int → Nat → Mem → Prop} {v1 v2 u0 : Int}  (h : (CI G Y_X8_at [.inr 397, .inl v2, .inl 0] n μ (fun (x1 : Int) (n2 : Nat) (μ3 : Mem) => (CI G Y_X8_at [.inr 397, .inl v2, .inl 1] n2 μ3 (fun (x4 : Int) (n5 : Nat) (μ6 : Mem) => (CI G Y_X10_predict [.inr 0, .inl x1, .inl x4, .inl 1, .inl v1] n5 μ6 (fun (x7 : Int) (n8 : Nat) (μ9 : Mem) => ((x7 = u0 → ((inR (v2 + 1)) ∧ (B_X10_explainsAll_2 G Q n8 μ9 v1 (v2 + 1)))) ∧ (¬ (x7 = u0) → (Q 0 n8 μ9)))))))))) : B_X10_explainsAll_35 G Q n μ v1 v2 u0 := by
  show Wa G Y_X10_explainsAll (ZI G Y_X10_explainsAll Q) 0 0 n μ 35 [(0, .inr 0), (1, .inl v1), (2, .inl v2)] [.inl u0]
  refine b_istore (L' := [(0, .inr 0), (1, .inl v1), (2, .inl v2), (4, .inl u0)]) [1, 2, 3, 0] dX10_explainsAll_35 (Nat.le_of_ble_eq_true rfl) rfl ?_
  refine a_aload_n (k := 0) dX10_explainsAll_37 rfl rfl ?_
  refine gs_X10_78 rfl dX10_explainsAll_38 hg St_0 ?_
  refine a_iload_n (k := 2) dX10_explainsAll_41 rfl rfl ?_
  refine a_iconst dX10_explainsAll_42 (by decide) ?_
  refine k_X10_207 rfl dX10_explainsAll_43 (Nat.le_of_ble_eq_true rfl) rfl (Nat.le_of_ble_eq_true rfl) (Nat.le_of_ble_eq_true rfl) (St_ho hg St_397) h (fun x1 n2 μ3 h => ?_)
  refine b_istore (L' := [(0, .inr 0), (1, .inl v1), (2, .inl v2), (4, .inl u0), (5, .inl x1)]) [1, 2, 3, 4, 0] dX10_explainsAll_46 (Nat.le_of_ble_eq_true rfl) rfl ?_
  refine a_aload_n (k := 0) dX10_explainsAll_48 rfl rfl ?_
  refine a_iload (k := 4) dX10_explainsAll_49 rfl ?_
  refine a_aload_n (k := 0) dX10_explainsAll_51 rfl rfl ?_
  refine gs_X10_78 rfl dX10_explainsAll_52 hg St_0 ?_
  refine a_iload_n (k := 2) dX10_explainsAll_55 rfl rfl ?_
  refine a_iconst dX10_explainsAll_56 (by decide) ?_
  refine k_X10_207 rfl dX10_explainsAll_57 (Nat.le_of_ble_eq_true rfl) rfl (Nat.le_of_ble_eq_true rfl) (Nat.le_of_ble_eq_true rfl) (St_ho hg St_397) h (fun x4 n5 μ6 h => ?_)
  refine a_iconst dX10_explainsAll_60 (by decide) ?_
  refine a_iload_n (k := 1) dX10_explainsAll_61 rfl rfl ?_
  refine k_X10_216 rfl dX10_explainsAll_62 (Nat.le_of_ble_eq_true rfl) rfl (Nat.le_of_ble_eq_true rfl) (Nat.le_of_ble_eq_true rfl) (St_ho hg St_0) h (fun x7 n8 μ9 h => ?_)
  refine a_iload (k := 3) dX10_explainsAll_65 rfl ?_
  refine a_icmp_eq (tgt := 72) dX10_explainsAll_67 (by decide) (fun c10 => ?_) (fun c10 => ?_)
  · replace h := h.1 c10
    obtain ⟨q11, h⟩ := h
    refine b_iinc (L' := [(0, .inr 0), (1, .inl v1), (2, .inl (v2 + 1)), (4, .inl u0), (5, .inl x1)]) (k := 2) [1, 2, 0, 3, 4] dX10_explainsAll_72 rfl q11 (Nat.le_of_ble_eq_true rfl) rfl ?_
    refine a_goto (tgt := 2) dX10_explainsAll_75 (by decide) ?_
    refine a_sub [0, 1, 2] rfl ?_
    exact h
  · replace h := h.2 c10
    refine a_iconst dX10_explainsAll_70 (by decide) ?_
    exact a_zret dX10_explainsAll_71 rfl (Nat.le_of_ble_eq_true rfl) (Nat.le_of_ble_eq_true rfl) (by decide) h
theorem m_X10_imageAt {G : GT} (hg : gx G = FX) {n : Nat} {μ : Mem} {Q : Int → Nat → Mem → Prop} {v1 : Int}  (h : ((¬ (v1 = 0) → (((0 : Int) ≤ 368) ∧ (Q 368 n μ))) ∧ (v1 = 0 → (((0 : Int) ≤ 339) ∧ (Q 339 n μ))))) : CR G Y_X10_imageAt [.inr 0, .inl v1] n μ Q := by
  refine e_R (by decide) (Nat.le_of_ble_eq_true rfl) ?_
  show Wa G Y_X10_imageAt (ZR G Y_X10_imageAt Q) 0 0 n μ 0 [(0, .inr 0), (1, .inl v1)] []
  refine a_iload_n (k := 1) dX10_imageAt_0 rfl rfl ?_
  refine a_if_ne (tgt := 11) dX10_imageAt_1 (by decide) (fun c1 => ?_) (fun c1 => ?_)
  · replace h := h.1 c1
    refine a_aload_n (k := 0) dX10_imageAt_11 rfl rfl ?_
    refine gs_X10_70 rfl dX10_imageAt_12 hg St_0 ?_
    obtain ⟨q2, h⟩ := h
    exact a_aret dX10_imageAt_15 rfl (Nat.le_of_ble_eq_true rfl) (Nat.le_of_ble_eq_true rfl) q2 h
  · replace h := h.2 c1
    refine a_aload_n (k := 0) dX10_imageAt_4 rfl rfl ?_
    refine gs_X10_67 rfl dX10_imageAt_5 hg St_0 ?_
    refine a_goto (tgt := 15) dX10_imageAt_8 (by decide) ?_
    obtain ⟨q3, h⟩ := h
    exact a_aret dX10_imageAt_15 rfl (Nat.le_of_ble_eq_true rfl) (Nat.le_of_ble_eq_true rfl) q3 h
