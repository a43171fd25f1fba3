-- 080.tables: decode rows and blocks (by program, wip/gen)
theorem dX8_at_0 : decode cX8_at 0 = .ok (.iload_n 1, 1) := by decide +kernel
theorem dX8_at_1 : decode cX8_at 1 = .ok (.aload_n 0, 1) := by decide +kernel
theorem dX8_at_2 : decode cX8_at 2 = .ok (.getfield 9, 3) := by decide +kernel
theorem dX8_at_5 : decode cX8_at 5 = .ok (.imul, 1) := by decide +kernel
theorem dX8_at_6 : decode cX8_at 6 = .ok (.iload_n 2, 1) := by decide +kernel
theorem dX8_at_7 : decode cX8_at 7 = .ok (.iadd, 1) := by decide +kernel
theorem dX8_at_8 : decode cX8_at 8 = .ok (.istore_n 3, 1) := by decide +kernel
theorem dX8_at_9 : decode cX8_at 9 = .ok (.iload_n 1, 1) := by decide +kernel
theorem dX8_at_10 : decode cX8_at 10 = .ok (.ifCond .lt 36, 3) := by decide +kernel
theorem dX8_at_13 : decode cX8_at 13 = .ok (.iload_n 1, 1) := by decide +kernel
theorem dX8_at_14 : decode cX8_at 14 = .ok (.aload_n 0, 1) := by decide +kernel
theorem dX8_at_15 : decode cX8_at 15 = .ok (.getfield 25, 3) := by decide +kernel
theorem dX8_at_18 : decode cX8_at 18 = .ok (.if_icmp .ge 28, 3) := by decide +kernel
theorem dX8_at_21 : decode cX8_at 21 = .ok (.iload_n 2, 1) := by decide +kernel
theorem dX8_at_22 : decode cX8_at 22 = .ok (.ifCond .lt 24, 3) := by decide +kernel
theorem dX8_at_25 : decode cX8_at 25 = .ok (.iload_n 2, 1) := by decide +kernel
theorem dX8_at_26 : decode cX8_at 26 = .ok (.aload_n 0, 1) := by decide +kernel
theorem dX8_at_27 : decode cX8_at 27 = .ok (.getfield 9, 3) := by decide +kernel
theorem dX8_at_30 : decode cX8_at 30 = .ok (.if_icmp .ge 16, 3) := by decide +kernel
theorem dX8_at_33 : decode cX8_at 33 = .ok (.iload_n 3, 1) := by decide +kernel
theorem dX8_at_34 : decode cX8_at 34 = .ok (.ifCond .lt 12, 3) := by decide +kernel
theorem dX8_at_37 : decode cX8_at 37 = .ok (.iload_n 3, 1) := by decide +kernel
theorem dX8_at_38 : decode cX8_at 38 = .ok (.aload_n 0, 1) := by decide +kernel
theorem dX8_at_39 : decode cX8_at 39 = .ok (.getfield 21, 3) := by decide +kernel
theorem dX8_at_42 : decode cX8_at 42 = .ok (.arraylength, 1) := by decide +kernel
theorem dX8_at_43 : decode cX8_at 43 = .ok (.if_icmp .lt 6, 3) := by decide +kernel
theorem dX8_at_46 : decode cX8_at 46 = .ok (.bipush (-9), 2) := by decide +kernel
theorem dX8_at_48 : decode cX8_at 48 = .ok (.ireturn, 1) := by decide +kernel
theorem dX8_at_49 : decode cX8_at 49 = .ok (.aload_n 0, 1) := by decide +kernel
theorem dX8_at_50 : decode cX8_at 50 = .ok (.getfield 21, 3) := by decide +kernel
theorem dX8_at_53 : decode cX8_at 53 = .ok (.iload_n 3, 1) := by decide +kernel
theorem dX8_at_54 : decode cX8_at 54 = .ok (.iaload, 1) := by decide +kernel
theorem dX8_at_55 : decode cX8_at 55 = .ok (.ireturn, 1) := by decide +kernel
theorem dX8_put_0 : decode cX8_put 0 = .ok (.iload_n 1, 1) := by decide +kernel
theorem dX8_put_1 : decode cX8_put 1 = .ok (.aload_n 0, 1) := by decide +kernel
theorem dX8_put_2 : decode cX8_put 2 = .ok (.getfield 9, 3) := by decide +kernel
theorem dX8_put_5 : decode cX8_put 5 = .ok (.imul, 1) := by decide +kernel
theorem dX8_put_6 : decode cX8_put 6 = .ok (.iload_n 2, 1) := by decide +kernel
theorem dX8_put_7 : decode cX8_put 7 = .ok (.iadd, 1) := by decide +kernel
theorem dX8_put_8 : decode cX8_put 8 = .ok (.istore 4, 2) := by decide +kernel
theorem dX8_put_10 : decode cX8_put 10 = .ok (.iload_n 1, 1) := by decide +kernel
theorem dX8_put_11 : decode cX8_put 11 = .ok (.ifCond .lt 46, 3) := by decide +kernel
theorem dX8_put_14 : decode cX8_put 14 = .ok (.iload_n 1, 1) := by decide +kernel
theorem dX8_put_15 : decode cX8_put 15 = .ok (.aload_n 0, 1) := by decide +kernel
theorem dX8_put_16 : decode cX8_put 16 = .ok (.getfield 25, 3) := by decide +kernel
theorem dX8_put_19 : decode cX8_put 19 = .ok (.if_icmp .ge 38, 3) := by decide +kernel
theorem dX8_put_22 : decode cX8_put 22 = .ok (.iload_n 2, 1) := by decide +kernel
theorem dX8_put_23 : decode cX8_put 23 = .ok (.ifCond .lt 34, 3) := by decide +kernel
theorem dX8_put_26 : decode cX8_put 26 = .ok (.iload_n 2, 1) := by decide +kernel
theorem dX8_put_27 : decode cX8_put 27 = .ok (.aload_n 0, 1) := by decide +kernel
theorem dX8_put_28 : decode cX8_put 28 = .ok (.getfield 9, 3) := by decide +kernel
theorem dX8_put_31 : decode cX8_put 31 = .ok (.if_icmp .ge 26, 3) := by decide +kernel
theorem dX8_put_34 : decode cX8_put 34 = .ok (.iload 4, 2) := by decide +kernel
theorem dX8_put_36 : decode cX8_put 36 = .ok (.ifCond .lt 21, 3) := by decide +kernel
theorem dX8_put_39 : decode cX8_put 39 = .ok (.iload 4, 2) := by decide +kernel
theorem dX8_put_41 : decode cX8_put 41 = .ok (.aload_n 0, 1) := by decide +kernel
theorem dX8_put_42 : decode cX8_put 42 = .ok (.getfield 21, 3) := by decide +kernel
theorem dX8_put_45 : decode cX8_put 45 = .ok (.arraylength, 1) := by decide +kernel
theorem dX8_put_46 : decode cX8_put 46 = .ok (.if_icmp .ge 11, 3) := by decide +kernel
theorem dX8_put_49 : decode cX8_put 49 = .ok (.aload_n 0, 1) := by decide +kernel
theorem dX8_put_50 : decode cX8_put 50 = .ok (.getfield 21, 3) := by decide +kernel
theorem dX8_put_53 : decode cX8_put 53 = .ok (.iload 4, 2) := by decide +kernel
theorem dX8_put_55 : decode cX8_put 55 = .ok (.iload_n 3, 1) := by decide +kernel
theorem dX8_put_56 : decode cX8_put 56 = .ok (.iastore, 1) := by decide +kernel
theorem dX8_put_57 : decode cX8_put 57 = .ok (.return_, 1) := by decide +kernel
theorem dX8_addRow_0 : decode cX8_addRow 0 = .ok (.aload_n 0, 1) := by decide +kernel
theorem dX8_addRow_1 : decode cX8_addRow 1 = .ok (.getfield 25, 3) := by decide +kernel
theorem dX8_addRow_4 : decode cX8_addRow 4 = .ok (.iconst 1, 1) := by decide +kernel
theorem dX8_addRow_5 : decode cX8_addRow 5 = .ok (.iadd, 1) := by decide +kernel
theorem dX8_addRow_6 : decode cX8_addRow 6 = .ok (.aload_n 0, 1) := by decide +kernel
theorem dX8_addRow_7 : decode cX8_addRow 7 = .ok (.getfield 9, 3) := by decide +kernel
theorem dX8_addRow_10 : decode cX8_addRow 10 = .ok (.imul, 1) := by decide +kernel
theorem dX8_addRow_11 : decode cX8_addRow 11 = .ok (.aload_n 0, 1) := by decide +kernel
theorem dX8_addRow_12 : decode cX8_addRow 12 = .ok (.getfield 21, 3) := by decide +kernel
theorem dX8_addRow_15 : decode cX8_addRow 15 = .ok (.arraylength, 1) := by decide +kernel
theorem dX8_addRow_16 : decode cX8_addRow 16 = .ok (.if_icmp .le 5, 3) := by decide +kernel
theorem dX8_addRow_19 : decode cX8_addRow 19 = .ok (.iconst (-1), 1) := by decide +kernel
theorem dX8_addRow_20 : decode cX8_addRow 20 = .ok (.ireturn, 1) := by decide +kernel
theorem dX8_addRow_21 : decode cX8_addRow 21 = .ok (.aload_n 0, 1) := by decide +kernel
theorem dX8_addRow_22 : decode cX8_addRow 22 = .ok (.dup, 1) := by decide +kernel
theorem dX8_addRow_23 : decode cX8_addRow 23 = .ok (.getfield 25, 3) := by decide +kernel
theorem dX8_addRow_26 : decode cX8_addRow 26 = .ok (.iconst 1, 1) := by decide +kernel
theorem dX8_addRow_27 : decode cX8_addRow 27 = .ok (.iadd, 1) := by decide +kernel
theorem dX8_addRow_28 : decode cX8_addRow 28 = .ok (.putfield 25, 3) := by decide +kernel
theorem dX8_addRow_31 : decode cX8_addRow 31 = .ok (.aload_n 0, 1) := by decide +kernel
theorem dX8_addRow_32 : decode cX8_addRow 32 = .ok (.getfield 25, 3) := by decide +kernel
theorem dX8_addRow_35 : decode cX8_addRow 35 = .ok (.iconst 1, 1) := by decide +kernel
theorem dX8_addRow_36 : decode cX8_addRow 36 = .ok (.isub, 1) := by decide +kernel
theorem dX8_addRow_37 : decode cX8_addRow 37 = .ok (.ireturn, 1) := by decide +kernel
theorem dX8_cut_0 : decode cX8_cut 0 = .ok (.aload_n 0, 1) := by decide +kernel
theorem dX8_cut_1 : decode cX8_cut 1 = .ok (.iconst 0, 1) := by decide +kernel
theorem dX8_cut_2 : decode cX8_cut 2 = .ok (.aload_n 0, 1) := by decide +kernel
theorem dX8_cut_3 : decode cX8_cut 3 = .ok (.getfield 25, 3) := by decide +kernel
theorem dX8_cut_6 : decode cX8_cut 6 = .ok (.iload_n 1, 1) := by decide +kernel
theorem dX8_cut_7 : decode cX8_cut 7 = .ok (.invokestatic 28, 3) := by decide +kernel
theorem dX8_cut_10 : decode cX8_cut 10 = .ok (.invokestatic 15, 3) := by decide +kernel
theorem dX8_cut_13 : decode cX8_cut 13 = .ok (.putfield 25, 3) := by decide +kernel
theorem dX8_cut_16 : decode cX8_cut 16 = .ok (.return_, 1) := by decide +kernel
theorem dX8_removeFirstRow_0 : decode cX8_removeFirstRow 0 = .ok (.iconst 1, 1) := by decide +kernel
theorem dX8_removeFirstRow_1 : decode cX8_removeFirstRow 1 = .ok (.istore_n 1, 1) := by decide +kernel
theorem dX8_removeFirstRow_2 : decode cX8_removeFirstRow 2 = .ok (.iload_n 1, 1) := by decide +kernel
theorem dX8_removeFirstRow_3 : decode cX8_removeFirstRow 3 = .ok (.aload_n 0, 1) := by decide +kernel
theorem dX8_removeFirstRow_4 : decode cX8_removeFirstRow 4 = .ok (.getfield 25, 3) := by decide +kernel
theorem dX8_removeFirstRow_7 : decode cX8_removeFirstRow 7 = .ok (.if_icmp .ge 39, 3) := by decide +kernel
theorem dX8_removeFirstRow_10 : decode cX8_removeFirstRow 10 = .ok (.iconst 0, 1) := by decide +kernel
theorem dX8_removeFirstRow_11 : decode cX8_removeFirstRow 11 = .ok (.istore_n 2, 1) := by decide +kernel
theorem dX8_removeFirstRow_12 : decode cX8_removeFirstRow 12 = .ok (.iload_n 2, 1) := by decide +kernel
theorem dX8_removeFirstRow_13 : decode cX8_removeFirstRow 13 = .ok (.aload_n 0, 1) := by decide +kernel
theorem dX8_removeFirstRow_14 : decode cX8_removeFirstRow 14 = .ok (.getfield 9, 3) := by decide +kernel
theorem dX8_removeFirstRow_17 : decode cX8_removeFirstRow 17 = .ok (.if_icmp .ge 23, 3) := by decide +kernel
theorem dX8_removeFirstRow_20 : decode cX8_removeFirstRow 20 = .ok (.aload_n 0, 1) := by decide +kernel
theorem dX8_removeFirstRow_21 : decode cX8_removeFirstRow 21 = .ok (.iload_n 1, 1) := by decide +kernel
theorem dX8_removeFirstRow_22 : decode cX8_removeFirstRow 22 = .ok (.iconst 1, 1) := by decide +kernel
theorem dX8_removeFirstRow_23 : decode cX8_removeFirstRow 23 = .ok (.isub, 1) := by decide +kernel
theorem dX8_removeFirstRow_24 : decode cX8_removeFirstRow 24 = .ok (.iload_n 2, 1) := by decide +kernel
theorem dX8_removeFirstRow_25 : decode cX8_removeFirstRow 25 = .ok (.aload_n 0, 1) := by decide +kernel
theorem dX8_removeFirstRow_26 : decode cX8_removeFirstRow 26 = .ok (.iload_n 1, 1) := by decide +kernel
theorem dX8_removeFirstRow_27 : decode cX8_removeFirstRow 27 = .ok (.iload_n 2, 1) := by decide +kernel
theorem dX8_removeFirstRow_28 : decode cX8_removeFirstRow 28 = .ok (.invokevirtual 31, 3) := by decide +kernel
theorem dX8_removeFirstRow_31 : decode cX8_removeFirstRow 31 = .ok (.invokevirtual 34, 3) := by decide +kernel
theorem dX8_removeFirstRow_34 : decode cX8_removeFirstRow 34 = .ok (.iinc 2 1, 3) := by decide +kernel
theorem dX8_removeFirstRow_37 : decode cX8_removeFirstRow 37 = .ok (.goto (-25), 3) := by decide +kernel
theorem dX8_removeFirstRow_40 : decode cX8_removeFirstRow 40 = .ok (.iinc 1 1, 3) := by decide +kernel
theorem dX8_removeFirstRow_43 : decode cX8_removeFirstRow 43 = .ok (.goto (-41), 3) := by decide +kernel
theorem dX8_removeFirstRow_46 : decode cX8_removeFirstRow 46 = .ok (.aload_n 0, 1) := by decide +kernel
theorem dX8_removeFirstRow_47 : decode cX8_removeFirstRow 47 = .ok (.aload_n 0, 1) := by decide +kernel
theorem dX8_removeFirstRow_48 : decode cX8_removeFirstRow 48 = .ok (.getfield 25, 3) := by decide +kernel
theorem dX8_removeFirstRow_51 : decode cX8_removeFirstRow 51 = .ok (.iconst 1, 1) := by decide +kernel
theorem dX8_removeFirstRow_52 : decode cX8_removeFirstRow 52 = .ok (.isub, 1) := by decide +kernel
theorem dX8_removeFirstRow_53 : decode cX8_removeFirstRow 53 = .ok (.invokevirtual 38, 3) := by decide +kernel
theorem dX8_removeFirstRow_56 : decode cX8_removeFirstRow 56 = .ok (.return_, 1) := by decide +kernel
theorem dX8_copyFrom_0 : decode cX8_copyFrom 0 = .ok (.aload_n 0, 1) := by decide +kernel
theorem dX8_copyFrom_1 : decode cX8_copyFrom 1 = .ok (.iconst 0, 1) := by decide +kernel
theorem dX8_copyFrom_2 : decode cX8_copyFrom 2 = .ok (.putfield 25, 3) := by decide +kernel
theorem dX8_copyFrom_5 : decode cX8_copyFrom 5 = .ok (.aload_n 0, 1) := by decide +kernel
theorem dX8_copyFrom_6 : decode cX8_copyFrom 6 = .ok (.aload_n 1, 1) := by decide +kernel
theorem dX8_copyFrom_7 : decode cX8_copyFrom 7 = .ok (.invokevirtual 42, 3) := by decide +kernel
theorem dX8_copyFrom_10 : decode cX8_copyFrom 10 = .ok (.return_, 1) := by decide +kernel
theorem dX8_appendFrom_0 : decode cX8_appendFrom 0 = .ok (.iconst 0, 1) := by decide +kernel
theorem dX8_appendFrom_1 : decode cX8_appendFrom 1 = .ok (.istore_n 2, 1) := by decide +kernel
theorem dX8_appendFrom_2 : decode cX8_appendFrom 2 = .ok (.iload_n 2, 1) := by decide +kernel
theorem dX8_appendFrom_3 : decode cX8_appendFrom 3 = .ok (.aload_n 1, 1) := by decide +kernel
theorem dX8_appendFrom_4 : decode cX8_appendFrom 4 = .ok (.getfield 25, 3) := by decide +kernel
theorem dX8_appendFrom_7 : decode cX8_appendFrom 7 = .ok (.if_icmp .ge 46, 3) := by decide +kernel
theorem dX8_appendFrom_10 : decode cX8_appendFrom 10 = .ok (.aload_n 0, 1) := by decide +kernel
theorem dX8_appendFrom_11 : decode cX8_appendFrom 11 = .ok (.invokevirtual 46, 3) := by decide +kernel
theorem dX8_appendFrom_14 : decode cX8_appendFrom 14 = .ok (.istore_n 3, 1) := by decide +kernel
theorem dX8_appendFrom_15 : decode cX8_appendFrom 15 = .ok (.iconst 0, 1) := by decide +kernel
theorem dX8_appendFrom_16 : decode cX8_appendFrom 16 = .ok (.istore 4, 2) := by decide +kernel
theorem dX8_appendFrom_18 : decode cX8_appendFrom 18 = .ok (.iload 4, 2) := by decide +kernel
theorem dX8_appendFrom_20 : decode cX8_appendFrom 20 = .ok (.aload_n 0, 1) := by decide +kernel
theorem dX8_appendFrom_21 : decode cX8_appendFrom 21 = .ok (.getfield 9, 3) := by decide +kernel
theorem dX8_appendFrom_24 : decode cX8_appendFrom 24 = .ok (.if_icmp .ge 23, 3) := by decide +kernel
theorem dX8_appendFrom_27 : decode cX8_appendFrom 27 = .ok (.aload_n 0, 1) := by decide +kernel
theorem dX8_appendFrom_28 : decode cX8_appendFrom 28 = .ok (.iload_n 3, 1) := by decide +kernel
theorem dX8_appendFrom_29 : decode cX8_appendFrom 29 = .ok (.iload 4, 2) := by decide +kernel
theorem dX8_appendFrom_31 : decode cX8_appendFrom 31 = .ok (.aload_n 1, 1) := by decide +kernel
theorem dX8_appendFrom_32 : decode cX8_appendFrom 32 = .ok (.iload_n 2, 1) := by decide +kernel
theorem dX8_appendFrom_33 : decode cX8_appendFrom 33 = .ok (.iload 4, 2) := by decide +kernel
theorem dX8_appendFrom_35 : decode cX8_appendFrom 35 = .ok (.invokevirtual 31, 3) := by decide +kernel
theorem dX8_appendFrom_38 : decode cX8_appendFrom 38 = .ok (.invokevirtual 34, 3) := by decide +kernel
theorem dX8_appendFrom_41 : decode cX8_appendFrom 41 = .ok (.iinc 4 1, 3) := by decide +kernel
theorem dX8_appendFrom_44 : decode cX8_appendFrom 44 = .ok (.goto (-26), 3) := by decide +kernel
theorem dX8_appendFrom_47 : decode cX8_appendFrom 47 = .ok (.iinc 2 1, 3) := by decide +kernel
theorem dX8_appendFrom_50 : decode cX8_appendFrom 50 = .ok (.goto (-48), 3) := by decide +kernel
theorem dX8_appendFrom_53 : decode cX8_appendFrom 53 = .ok (.return_, 1) := by decide +kernel
theorem dX9_isFull_0 : decode cX9_isFull 0 = .ok (.aload_n 0, 1) := by decide +kernel
theorem dX9_isFull_1 : decode cX9_isFull 1 = .ok (.getfield 15, 3) := by decide +kernel
theorem dX9_isFull_4 : decode cX9_isFull 4 = .ok (.aload_n 0, 1) := by decide +kernel
theorem dX9_isFull_5 : decode cX9_isFull 5 = .ok (.getfield 9, 3) := by decide +kernel
theorem dX9_isFull_8 : decode cX9_isFull 8 = .ok (.arraylength, 1) := by decide +kernel
theorem dX9_isFull_9 : decode cX9_isFull 9 = .ok (.if_icmp .lt 7, 3) := by decide +kernel
theorem dX9_isFull_12 : decode cX9_isFull 12 = .ok (.iconst 1, 1) := by decide +kernel
theorem dX9_isFull_13 : decode cX9_isFull 13 = .ok (.goto 4, 3) := by decide +kernel
theorem dX9_isFull_16 : decode cX9_isFull 16 = .ok (.iconst 0, 1) := by decide +kernel
theorem dX9_isFull_17 : decode cX9_isFull 17 = .ok (.ireturn, 1) := by decide +kernel
theorem dX9_append_0 : decode cX9_append 0 = .ok (.aload_n 0, 1) := by decide +kernel
theorem dX9_append_1 : decode cX9_append 1 = .ok (.getfield 15, 3) := by decide +kernel
theorem dX9_append_4 : decode cX9_append 4 = .ok (.ifCond .lt 35, 3) := by decide +kernel
theorem dX9_append_7 : decode cX9_append 7 = .ok (.aload_n 0, 1) := by decide +kernel
theorem dX9_append_8 : decode cX9_append 8 = .ok (.getfield 15, 3) := by decide +kernel
theorem dX9_append_11 : decode cX9_append 11 = .ok (.aload_n 0, 1) := by decide +kernel
theorem dX9_append_12 : decode cX9_append 12 = .ok (.getfield 9, 3) := by decide +kernel
theorem dX9_append_15 : decode cX9_append 15 = .ok (.arraylength, 1) := by decide +kernel
theorem dX9_append_16 : decode cX9_append 16 = .ok (.if_icmp .ge 23, 3) := by decide +kernel
theorem dX9_append_19 : decode cX9_append 19 = .ok (.aload_n 0, 1) := by decide +kernel
theorem dX9_append_20 : decode cX9_append 20 = .ok (.getfield 9, 3) := by decide +kernel
theorem dX9_append_23 : decode cX9_append 23 = .ok (.aload_n 0, 1) := by decide +kernel
theorem dX9_append_24 : decode cX9_append 24 = .ok (.getfield 15, 3) := by decide +kernel
theorem dX9_append_27 : decode cX9_append 27 = .ok (.iload_n 1, 1) := by decide +kernel
theorem dX9_append_28 : decode cX9_append 28 = .ok (.iastore, 1) := by decide +kernel
theorem dX9_append_29 : decode cX9_append 29 = .ok (.aload_n 0, 1) := by decide +kernel
theorem dX9_append_30 : decode cX9_append 30 = .ok (.dup, 1) := by decide +kernel
theorem dX9_append_31 : decode cX9_append 31 = .ok (.getfield 15, 3) := by decide +kernel
theorem dX9_append_34 : decode cX9_append 34 = .ok (.iconst 1, 1) := by decide +kernel
theorem dX9_append_35 : decode cX9_append 35 = .ok (.iadd, 1) := by decide +kernel
theorem dX9_append_36 : decode cX9_append 36 = .ok (.putfield 15, 3) := by decide +kernel
theorem dX9_append_39 : decode cX9_append 39 = .ok (.return_, 1) := by decide +kernel
theorem dX9_empty_0 : decode cX9_empty 0 = .ok (.aload_n 0, 1) := by decide +kernel
theorem dX9_empty_1 : decode cX9_empty 1 = .ok (.iconst 0, 1) := by decide +kernel
theorem dX9_empty_2 : decode cX9_empty 2 = .ok (.putfield 15, 3) := by decide +kernel
theorem dX9_empty_5 : decode cX9_empty 5 = .ok (.return_, 1) := by decide +kernel
theorem dX9_byteAt_0 : decode cX9_byteAt 0 = .ok (.iload_n 1, 1) := by decide +kernel
theorem dX9_byteAt_1 : decode cX9_byteAt 1 = .ok (.ifCond .lt 20, 3) := by decide +kernel
theorem dX9_byteAt_4 : decode cX9_byteAt 4 = .ok (.iload_n 1, 1) := by decide +kernel
theorem dX9_byteAt_5 : decode cX9_byteAt 5 = .ok (.aload_n 0, 1) := by decide +kernel
theorem dX9_byteAt_6 : decode cX9_byteAt 6 = .ok (.getfield 15, 3) := by decide +kernel
theorem dX9_byteAt_9 : decode cX9_byteAt 9 = .ok (.if_icmp .ge 12, 3) := by decide +kernel
theorem dX9_byteAt_12 : decode cX9_byteAt 12 = .ok (.iload_n 1, 1) := by decide +kernel
theorem dX9_byteAt_13 : decode cX9_byteAt 13 = .ok (.aload_n 0, 1) := by decide +kernel
theorem dX9_byteAt_14 : decode cX9_byteAt 14 = .ok (.getfield 9, 3) := by decide +kernel
theorem dX9_byteAt_17 : decode cX9_byteAt 17 = .ok (.arraylength, 1) := by decide +kernel
theorem dX9_byteAt_18 : decode cX9_byteAt 18 = .ok (.if_icmp .lt 6, 3) := by decide +kernel
theorem dX9_byteAt_21 : decode cX9_byteAt 21 = .ok (.bipush (-9), 2) := by decide +kernel
theorem dX9_byteAt_23 : decode cX9_byteAt 23 = .ok (.ireturn, 1) := by decide +kernel
theorem dX9_byteAt_24 : decode cX9_byteAt 24 = .ok (.aload_n 0, 1) := by decide +kernel
theorem dX9_byteAt_25 : decode cX9_byteAt 25 = .ok (.getfield 9, 3) := by decide +kernel
theorem dX9_byteAt_28 : decode cX9_byteAt 28 = .ok (.iload_n 1, 1) := by decide +kernel
theorem dX9_byteAt_29 : decode cX9_byteAt 29 = .ok (.iaload, 1) := by decide +kernel
theorem dX9_byteAt_30 : decode cX9_byteAt 30 = .ok (.ireturn, 1) := by decide +kernel
theorem dX1_ticksFor_0 : decode cX1_ticksFor 0 = .ok (.aload_n 0, 1) := by decide +kernel
theorem dX1_ticksFor_1 : decode cX1_ticksFor 1 = .ok (.getfield 24, 3) := by decide +kernel
theorem dX1_ticksFor_4 : decode cX1_ticksFor 4 = .ok (.iconst 1, 1) := by decide +kernel
theorem dX1_ticksFor_5 : decode cX1_ticksFor 5 = .ok (.if_icmp .ge 9, 3) := by decide +kernel
theorem dX1_ticksFor_8 : decode cX1_ticksFor 8 = .ok (.sipush 1000, 3) := by decide +kernel
theorem dX1_ticksFor_11 : decode cX1_ticksFor 11 = .ok (.goto 16, 3) := by decide +kernel
theorem dX1_ticksFor_14 : decode cX1_ticksFor 14 = .ok (.iload_n 1, 1) := by decide +kernel
theorem dX1_ticksFor_15 : decode cX1_ticksFor 15 = .ok (.aload_n 0, 1) := by decide +kernel
theorem dX1_ticksFor_16 : decode cX1_ticksFor 16 = .ok (.getfield 24, 3) := by decide +kernel
theorem dX1_ticksFor_19 : decode cX1_ticksFor 19 = .ok (.iadd, 1) := by decide +kernel
theorem dX1_ticksFor_20 : decode cX1_ticksFor 20 = .ok (.iconst 1, 1) := by decide +kernel
theorem dX1_ticksFor_21 : decode cX1_ticksFor 21 = .ok (.isub, 1) := by decide +kernel
theorem dX1_ticksFor_22 : decode cX1_ticksFor 22 = .ok (.aload_n 0, 1) := by decide +kernel
theorem dX1_ticksFor_23 : decode cX1_ticksFor 23 = .ok (.getfield 24, 3) := by decide +kernel
theorem dX1_ticksFor_26 : decode cX1_ticksFor 26 = .ok (.idiv, 1) := by decide +kernel
theorem dX1_ticksFor_27 : decode cX1_ticksFor 27 = .ok (.ireturn, 1) := by decide +kernel
theorem dX1_property_0 : decode cX1_property 0 = .ok (.iload_n 1, 1) := by decide +kernel
theorem dX1_property_1 : decode cX1_property 1 = .ok (.tableswitch 69 0 5 #[39, 44, 49, 54, 59, 64], 39) := by decide +kernel
theorem dX1_property_40 : decode cX1_property 40 = .ok (.aload_n 0, 1) := by decide +kernel
theorem dX1_property_41 : decode cX1_property 41 = .ok (.getfield 9, 3) := by decide +kernel
theorem dX1_property_44 : decode cX1_property 44 = .ok (.ireturn, 1) := by decide +kernel
theorem dX1_property_45 : decode cX1_property 45 = .ok (.aload_n 0, 1) := by decide +kernel
theorem dX1_property_46 : decode cX1_property 46 = .ok (.getfield 15, 3) := by decide +kernel
theorem dX1_property_49 : decode cX1_property 49 = .ok (.ireturn, 1) := by decide +kernel
theorem dX1_property_50 : decode cX1_property 50 = .ok (.aload_n 0, 1) := by decide +kernel
theorem dX1_property_51 : decode cX1_property 51 = .ok (.getfield 18, 3) := by decide +kernel
theorem dX1_property_54 : decode cX1_property 54 = .ok (.ireturn, 1) := by decide +kernel
theorem dX1_property_55 : decode cX1_property 55 = .ok (.aload_n 0, 1) := by decide +kernel
theorem dX1_property_56 : decode cX1_property 56 = .ok (.getfield 21, 3) := by decide +kernel
theorem dX1_property_59 : decode cX1_property 59 = .ok (.ireturn, 1) := by decide +kernel
theorem dX1_property_60 : decode cX1_property 60 = .ok (.aload_n 0, 1) := by decide +kernel
theorem dX1_property_61 : decode cX1_property 61 = .ok (.getfield 24, 3) := by decide +kernel
theorem dX1_property_64 : decode cX1_property 64 = .ok (.ireturn, 1) := by decide +kernel
theorem dX1_property_65 : decode cX1_property 65 = .ok (.aload_n 0, 1) := by decide +kernel
theorem dX1_property_66 : decode cX1_property 66 = .ok (.getfield 27, 3) := by decide +kernel
theorem dX1_property_69 : decode cX1_property 69 = .ok (.ireturn, 1) := by decide +kernel
theorem dX1_property_70 : decode cX1_property 70 = .ok (.iconst (-1), 1) := by decide +kernel
theorem dX1_property_71 : decode cX1_property 71 = .ok (.ireturn, 1) := by decide +kernel
theorem dJ6_bitCount_0f7a4_0 : decode cJ6_bitCount_0f7a4 0 = .ok (.iload_n 0, 1) := by decide +kernel
theorem dJ6_bitCount_0f7a4_1 : decode cJ6_bitCount_0f7a4 1 = .ok (.iload_n 0, 1) := by decide +kernel
theorem dJ6_bitCount_0f7a4_2 : decode cJ6_bitCount_0f7a4 2 = .ok (.iconst 1, 1) := by decide +kernel
theorem dJ6_bitCount_0f7a4_3 : decode cJ6_bitCount_0f7a4 3 = .ok (.iushr, 1) := by decide +kernel
theorem dJ6_bitCount_0f7a4_4 : decode cJ6_bitCount_0f7a4 4 = .ok (.ldc_w 265, 3) := by decide +kernel
theorem dJ6_bitCount_0f7a4_7 : decode cJ6_bitCount_0f7a4 7 = .ok (.iand, 1) := by decide +kernel
theorem dJ6_bitCount_0f7a4_8 : decode cJ6_bitCount_0f7a4 8 = .ok (.isub, 1) := by decide +kernel
theorem dJ6_bitCount_0f7a4_9 : decode cJ6_bitCount_0f7a4 9 = .ok (.istore_n 0, 1) := by decide +kernel
theorem dJ6_bitCount_0f7a4_10 : decode cJ6_bitCount_0f7a4 10 = .ok (.iload_n 0, 1) := by decide +kernel
theorem dJ6_bitCount_0f7a4_11 : decode cJ6_bitCount_0f7a4 11 = .ok (.ldc_w 266, 3) := by decide +kernel
theorem dJ6_bitCount_0f7a4_14 : decode cJ6_bitCount_0f7a4 14 = .ok (.iand, 1) := by decide +kernel
theorem dJ6_bitCount_0f7a4_15 : decode cJ6_bitCount_0f7a4 15 = .ok (.iload_n 0, 1) := by decide +kernel
theorem dJ6_bitCount_0f7a4_16 : decode cJ6_bitCount_0f7a4 16 = .ok (.iconst 2, 1) := by decide +kernel
theorem dJ6_bitCount_0f7a4_17 : decode cJ6_bitCount_0f7a4 17 = .ok (.iushr, 1) := by decide +kernel
theorem dJ6_bitCount_0f7a4_18 : decode cJ6_bitCount_0f7a4 18 = .ok (.ldc_w 266, 3) := by decide +kernel
theorem dJ6_bitCount_0f7a4_21 : decode cJ6_bitCount_0f7a4 21 = .ok (.iand, 1) := by decide +kernel
theorem dJ6_bitCount_0f7a4_22 : decode cJ6_bitCount_0f7a4 22 = .ok (.iadd, 1) := by decide +kernel
theorem dJ6_bitCount_0f7a4_23 : decode cJ6_bitCount_0f7a4 23 = .ok (.istore_n 0, 1) := by decide +kernel
theorem dJ6_bitCount_0f7a4_24 : decode cJ6_bitCount_0f7a4 24 = .ok (.iload_n 0, 1) := by decide +kernel
theorem dJ6_bitCount_0f7a4_25 : decode cJ6_bitCount_0f7a4 25 = .ok (.iload_n 0, 1) := by decide +kernel
theorem dJ6_bitCount_0f7a4_26 : decode cJ6_bitCount_0f7a4 26 = .ok (.iconst 4, 1) := by decide +kernel
theorem dJ6_bitCount_0f7a4_27 : decode cJ6_bitCount_0f7a4 27 = .ok (.iushr, 1) := by decide +kernel
theorem dJ6_bitCount_0f7a4_28 : decode cJ6_bitCount_0f7a4 28 = .ok (.iadd, 1) := by decide +kernel
theorem dJ6_bitCount_0f7a4_29 : decode cJ6_bitCount_0f7a4 29 = .ok (.ldc_w 267, 3) := by decide +kernel
theorem dJ6_bitCount_0f7a4_32 : decode cJ6_bitCount_0f7a4 32 = .ok (.iand, 1) := by decide +kernel
theorem dJ6_bitCount_0f7a4_33 : decode cJ6_bitCount_0f7a4 33 = .ok (.istore_n 0, 1) := by decide +kernel
theorem dJ6_bitCount_0f7a4_34 : decode cJ6_bitCount_0f7a4 34 = .ok (.iload_n 0, 1) := by decide +kernel
theorem dJ6_bitCount_0f7a4_35 : decode cJ6_bitCount_0f7a4 35 = .ok (.iload_n 0, 1) := by decide +kernel
theorem dJ6_bitCount_0f7a4_36 : decode cJ6_bitCount_0f7a4 36 = .ok (.bipush 8, 2) := by decide +kernel
theorem dJ6_bitCount_0f7a4_38 : decode cJ6_bitCount_0f7a4 38 = .ok (.iushr, 1) := by decide +kernel
theorem dJ6_bitCount_0f7a4_39 : decode cJ6_bitCount_0f7a4 39 = .ok (.iadd, 1) := by decide +kernel
theorem dJ6_bitCount_0f7a4_40 : decode cJ6_bitCount_0f7a4 40 = .ok (.istore_n 0, 1) := by decide +kernel
theorem dJ6_bitCount_0f7a4_41 : decode cJ6_bitCount_0f7a4 41 = .ok (.iload_n 0, 1) := by decide +kernel
theorem dJ6_bitCount_0f7a4_42 : decode cJ6_bitCount_0f7a4 42 = .ok (.iload_n 0, 1) := by decide +kernel
theorem dJ6_bitCount_0f7a4_43 : decode cJ6_bitCount_0f7a4 43 = .ok (.bipush 16, 2) := by decide +kernel
theorem dJ6_bitCount_0f7a4_45 : decode cJ6_bitCount_0f7a4 45 = .ok (.iushr, 1) := by decide +kernel
theorem dJ6_bitCount_0f7a4_46 : decode cJ6_bitCount_0f7a4 46 = .ok (.iadd, 1) := by decide +kernel
theorem dJ6_bitCount_0f7a4_47 : decode cJ6_bitCount_0f7a4 47 = .ok (.istore_n 0, 1) := by decide +kernel
theorem dJ6_bitCount_0f7a4_48 : decode cJ6_bitCount_0f7a4 48 = .ok (.iload_n 0, 1) := by decide +kernel
theorem dJ6_bitCount_0f7a4_49 : decode cJ6_bitCount_0f7a4 49 = .ok (.bipush 63, 2) := by decide +kernel
theorem dJ6_bitCount_0f7a4_51 : decode cJ6_bitCount_0f7a4 51 = .ok (.iand, 1) := by decide +kernel
theorem dJ6_bitCount_0f7a4_52 : decode cJ6_bitCount_0f7a4 52 = .ok (.ireturn, 1) := by decide +kernel
theorem m_X8_at {G : GT} (hg : gx G = FX) {n : Nat} {μ : Mem} {Q : Int → Nat → Mem → Prop} {v0 v1 v2 : Int} (o0 : St v0 8 3) (h : ((v1 < 0 → (Q (-9) n μ)) ∧ (¬ (v1 < 0) → (((μ v0 2) ≤ v1 → (Q (-9) n μ)) ∧ (¬ ((μ v0 2) ≤ v1) → ((v2 < 0 → (Q (-9) n μ)) ∧ (¬ (v2 < 0) → (((colsOf (SH (v0 + 1)).2) ≤ v2 → (Q (-9) n μ)) ∧ (¬ ((colsOf (SH (v0 + 1)).2) ≤ v2) → (((wrap ((wrap (v1 * (colsOf (SH (v0 + 1)).2))) + v2)) < 0 → (Q (-9) n μ)) ∧ (¬ ((wrap ((wrap (v1 * (colsOf (SH (v0 + 1)).2))) + v2)) < 0) → (((SH (v0 + 1)).2 < 2147483648) ∧ (((wrap ((wrap (v1 * (colsOf (SH (v0 + 1)).2))) + v2)) < (((SH (v0 + 1)).2 : Nat) : Int) → (((0 : Int) ≤ wrap ((wrap (v1 * (colsOf (SH (v0 + 1)).2))) + v2) ∧ wrap ((wrap (v1 * (colsOf (SH (v0 + 1)).2))) + v2) < (((SH (v0 + 1)).2 : Nat) : Int)) ∧ (Q (μ (v0 + 1) (wrap ((wrap (v1 * (colsOf (SH (v0 + 1)).2))) + v2))) n μ))) ∧ (¬ ((wrap ((wrap (v1 * (colsOf (SH (v0 + 1)).2))) + v2)) < (((SH (v0 + 1)).2 : Nat) : Int)) → (Q (-9) n μ))))))))))))))) : CI G Y_X8_at [.inr v0, .inl v1, .inl v2] n μ Q := by
  refine e_I (by decide) (Nat.le_of_ble_eq_true rfl) ?_
  show Wa G Y_X8_at (ZI G Y_X8_at Q) 0 0 n μ 0 [(0, .inr v0), (1, .inl v1), (2, .inl v2)] []
  refine a_iload_n (k := 1) dX8_at_0 rfl rfl ?_
  refine a_aload_n (k := 0) dX8_at_1 rfl rfl ?_
  refine gs_X8_9 rfl dX8_at_2 hg o0 ?_
  refine a_imulw dX8_at_5 ?_
  refine a_iload_n (k := 2) dX8_at_6 rfl rfl ?_
  refine a_iaddw dX8_at_7 ?_
  refine b_istore_n (L' := [(0, .inr v0), (1, .inl v1), (2, .inl v2), (3, .inl (wrap ((wrap (v1 * (colsOf (SH (v0 + 1)).2))) + v2)))]) [1, 2, 3, 0] dX8_at_8 rfl (by decide) rfl ?_
  refine a_iload_n (k := 1) dX8_at_9 rfl rfl ?_
  refine a_if_lt (tgt := 46) dX8_at_10 (by decide) (fun c1 => ?_) (fun c1 => ?_)
  · replace h := h.1 c1
    refine a_bipush dX8_at_46 (by decide) (by decide) ?_
    exact a_iret dX8_at_48 rfl (Nat.le_of_ble_eq_true rfl) (Nat.le_of_ble_eq_true rfl) h
  · replace h := h.2 c1
    refine a_iload_n (k := 1) dX8_at_13 rfl rfl ?_
    refine a_aload_n (k := 0) dX8_at_14 rfl rfl ?_
    refine g_X8_25 rfl dX8_at_15 (St_ho hg o0) ?_
    refine a_icmp_ge (tgt := 46) dX8_at_18 (by decide) (fun c2 => ?_) (fun c2 => ?_)
    · replace h := h.1 c2
      refine a_bipush dX8_at_46 (by decide) (by decide) ?_
      exact a_iret dX8_at_48 rfl (Nat.le_of_ble_eq_true rfl) (Nat.le_of_ble_eq_true rfl) h
    · replace h := h.2 c2
      refine a_iload_n (k := 2) dX8_at_21 rfl rfl ?_
      refine a_if_lt (tgt := 46) dX8_at_22 (by decide) (fun c3 => ?_) (fun c3 => ?_)
      · replace h := h.1 c3
        refine a_bipush dX8_at_46 (by decide) (by decide) ?_
        exact a_iret dX8_at_48 rfl (Nat.le_of_ble_eq_true rfl) (Nat.le_of_ble_eq_true rfl) h
      · replace h := h.2 c3
        refine a_iload_n (k := 2) dX8_at_25 rfl rfl ?_
        refine a_aload_n (k := 0) dX8_at_26 rfl rfl ?_
        refine gs_X8_9 rfl dX8_at_27 hg o0 ?_
        refine a_icmp_ge (tgt := 46) dX8_at_30 (by decide) (fun c4 => ?_) (fun c4 => ?_)
        · replace h := h.1 c4
          refine a_bipush dX8_at_46 (by decide) (by decide) ?_
          exact a_iret dX8_at_48 rfl (Nat.le_of_ble_eq_true rfl) (Nat.le_of_ble_eq_true rfl) h
        · replace h := h.2 c4
          refine a_iload_n (k := 3) dX8_at_33 rfl rfl ?_
          refine a_if_lt (tgt := 46) dX8_at_34 (by decide) (fun c5 => ?_) (fun c5 => ?_)
          · replace h := h.1 c5
            refine a_bipush dX8_at_46 (by decide) (by decide) ?_
            exact a_iret dX8_at_48 rfl (Nat.le_of_ble_eq_true rfl) (Nat.le_of_ble_eq_true rfl) h
          · replace h := h.2 c5
            refine a_iload_n (k := 3) dX8_at_37 rfl rfl ?_
            refine a_aload_n (k := 0) dX8_at_38 rfl rfl ?_
            refine gs_X8_21 rfl dX8_at_39 hg o0 ?_
            obtain ⟨q6, h⟩ := h
            refine a_alen (N := (SH (v0 + 1)).2) (t0 := 0) dX8_at_42 (by decide) q6 rfl (St_ho hg (st_8_1 o0)) ?_
            refine a_icmp_lt (tgt := 49) dX8_at_43 (by decide) (fun c7 => ?_) (fun c7 => ?_)
            · replace h := h.1 c7
              refine a_aload_n (k := 0) dX8_at_49 rfl rfl ?_
              refine gs_X8_21 rfl dX8_at_50 hg o0 ?_
              refine a_iload_n (k := 3) dX8_at_53 rfl rfl ?_
              obtain ⟨q8, h⟩ := h
              refine a_iaload dX8_at_54 (St_ho hg (st_8_1 o0)) q8.1 q8.2 ?_
              exact a_iret dX8_at_55 rfl (Nat.le_of_ble_eq_true rfl) (Nat.le_of_ble_eq_true rfl) h
            · replace h := h.2 c7
              refine a_bipush dX8_at_46 (by decide) (by decide) ?_
              exact a_iret dX8_at_48 rfl (Nat.le_of_ble_eq_true rfl) (Nat.le_of_ble_eq_true rfl) h
theorem m_X8_put {G : GT} (hg : gx G = FX) {n : Nat} {μ : Mem} {Q : Nat → Mem → Prop} {v0 v1 v2 v3 : Int} (o0 : St v0 8 3) (h : ((v1 < 0 → (Q n μ)) ∧ (¬ (v1 < 0) → (((μ v0 2) ≤ v1 → (Q n μ)) ∧ (¬ ((μ v0 2) ≤ v1) → ((v2 < 0 → (Q n μ)) ∧ (¬ (v2 < 0) → (((colsOf (SH (v0 + 1)).2) ≤ v2 → (Q n μ)) ∧ (¬ ((colsOf (SH (v0 + 1)).2) ≤ v2) → (((wrap ((wrap (v1 * (colsOf (SH (v0 + 1)).2))) + v2)) < 0 → (Q n μ)) ∧ (¬ ((wrap ((wrap (v1 * (colsOf (SH (v0 + 1)).2))) + v2)) < 0) → (((SH (v0 + 1)).2 < 2147483648) ∧ (((((SH (v0 + 1)).2 : Nat) : Int) ≤ (wrap ((wrap (v1 * (colsOf (SH (v0 + 1)).2))) + v2)) → (Q n μ)) ∧ (¬ ((((SH (v0 + 1)).2 : Nat) : Int) ≤ (wrap ((wrap (v1 * (colsOf (SH (v0 + 1)).2))) + v2))) → (((0 : Int) ≤ wrap ((wrap (v1 * (colsOf (SH (v0 + 1)).2))) + v2) ∧ wrap ((wrap (v1 * (colsOf (SH (v0 + 1)).2))) + v2) < (((SH (v0 + 1)).2 : Nat) : Int)) ∧ (Q n (up μ (v0 + 1) (wrap ((wrap (v1 * (colsOf (SH (v0 + 1)).2))) + v2)) v3))))))))))))))))) : CV G Y_X8_put [.inr v0, .inl v1, .inl v2, .inl v3] n μ Q := by
  refine e_V (by decide) (Nat.le_of_ble_eq_true rfl) ?_
  show Wa G Y_X8_put (ZV G Y_X8_put Q) 0 0 n μ 0 [(0, .inr v0), (1, .inl v1), (2, .inl v2), (3, .inl v3)] []
  refine a_iload_n (k := 1) dX8_put_0 rfl rfl ?_
  refine a_aload_n (k := 0) dX8_put_1 rfl rfl ?_
  refine gs_X8_9 rfl dX8_put_2 hg o0 ?_
  refine a_imulw dX8_put_5 ?_
  refine a_iload_n (k := 2) dX8_put_6 rfl rfl ?_
  refine a_iaddw dX8_put_7 ?_
  refine b_istore (L' := [(0, .inr v0), (1, .inl v1), (2, .inl v2), (3, .inl v3), (4, .inl (wrap ((wrap (v1 * (colsOf (SH (v0 + 1)).2))) + v2)))]) [1, 2, 3, 4, 0] dX8_put_8 (by decide) rfl ?_
  refine a_iload_n (k := 1) dX8_put_10 rfl rfl ?_
  refine a_if_lt (tgt := 57) dX8_put_11 (by decide) (fun c1 => ?_) (fun c1 => ?_)
  · replace h := h.1 c1
    exact a_ret dX8_put_57 rfl (Nat.le_of_ble_eq_true rfl) (Nat.le_of_ble_eq_true rfl) h
  · replace h := h.2 c1
    refine a_iload_n (k := 1) dX8_put_14 rfl rfl ?_
    refine a_aload_n (k := 0) dX8_put_15 rfl rfl ?_
    refine g_X8_25 rfl dX8_put_16 (St_ho hg o0) ?_
    refine a_icmp_ge (tgt := 57) dX8_put_19 (by decide) (fun c2 => ?_) (fun c2 => ?_)
    · replace h := h.1 c2
      exact a_ret dX8_put_57 rfl (Nat.le_of_ble_eq_true rfl) (Nat.le_of_ble_eq_true rfl) h
    · replace h := h.2 c2
      refine a_iload_n (k := 2) dX8_put_22 rfl rfl ?_
      refine a_if_lt (tgt := 57) dX8_put_23 (by decide) (fun c3 => ?_) (fun c3 => ?_)
      · replace h := h.1 c3
        exact a_ret dX8_put_57 rfl (Nat.le_of_ble_eq_true rfl) (Nat.le_of_ble_eq_true rfl) h
      · replace h := h.2 c3
        refine a_iload_n (k := 2) dX8_put_26 rfl rfl ?_
        refine a_aload_n (k := 0) dX8_put_27 rfl rfl ?_
        refine gs_X8_9 rfl dX8_put_28 hg o0 ?_
        refine a_icmp_ge (tgt := 57) dX8_put_31 (by decide) (fun c4 => ?_) (fun c4 => ?_)
        · replace h := h.1 c4
          exact a_ret dX8_put_57 rfl (Nat.le_of_ble_eq_true rfl) (Nat.le_of_ble_eq_true rfl) h
        · replace h := h.2 c4
          refine a_iload (k := 4) dX8_put_34 rfl ?_
          refine a_if_lt (tgt := 57) dX8_put_36 (by decide) (fun c5 => ?_) (fun c5 => ?_)
          · replace h := h.1 c5
            exact a_ret dX8_put_57 rfl (Nat.le_of_ble_eq_true rfl) (Nat.le_of_ble_eq_true rfl) h
          · replace h := h.2 c5
            refine a_iload (k := 4) dX8_put_39 rfl ?_
            refine a_aload_n (k := 0) dX8_put_41 rfl rfl ?_
            refine gs_X8_21 rfl dX8_put_42 hg o0 ?_
            obtain ⟨q6, h⟩ := h
            refine a_alen (N := (SH (v0 + 1)).2) (t0 := 0) dX8_put_45 (by decide) q6 rfl (St_ho hg (st_8_1 o0)) ?_
            refine a_icmp_ge (tgt := 57) dX8_put_46 (by decide) (fun c7 => ?_) (fun c7 => ?_)
            · replace h := h.1 c7
              exact a_ret dX8_put_57 rfl (Nat.le_of_ble_eq_true rfl) (Nat.le_of_ble_eq_true rfl) h
            · replace h := h.2 c7
              refine a_aload_n (k := 0) dX8_put_49 rfl rfl ?_
              refine gs_X8_21 rfl dX8_put_50 hg o0 ?_
              refine a_iload (k := 4) dX8_put_53 rfl ?_
              refine a_iload_n (k := 3) dX8_put_55 rfl rfl ?_
              obtain ⟨q8, h⟩ := h
              refine a_iastore dX8_put_56 (St_ho hg (st_8_1 o0)) q8.1 q8.2 (FX_put hg (st_8_1 o0) rfl) ?_
              exact a_ret dX8_put_57 rfl (Nat.le_of_ble_eq_true rfl) (Nat.le_of_ble_eq_true rfl) h
theorem m_X8_addRow {G : GT} (hg : gx G = FX) {n : Nat} {μ : Mem} {Q : Int → Nat → Mem → Prop} {v0 : Int} (o0 : St v0 8 3) (h : ((inR ((μ v0 2) + 1)) ∧ ((inR (((μ v0 2) + 1) * (colsOf (SH (v0 + 1)).2))) ∧ (((SH (v0 + 1)).2 < 2147483648) ∧ (((((μ v0 2) + 1) * (colsOf (SH (v0 + 1)).2)) ≤ (((SH (v0 + 1)).2 : Nat) : Int) → ((inR ((μ v0 2) + 1)) ∧ ((inR (((up μ v0 2 ((μ v0 2) + 1)) v0 2) - 1)) ∧ (Q (((up μ v0 2 ((μ v0 2) + 1)) v0 2) - 1) n (up μ v0 2 ((μ v0 2) + 1)))))) ∧ (¬ ((((μ v0 2) + 1) * (colsOf (SH (v0 + 1)).2)) ≤ (((SH (v0 + 1)).2 : Nat) : Int)) → (Q (-1) n μ))))))) : CI G Y_X8_addRow [.inr v0] n μ Q := by
  refine e_I (by decide) (Nat.le_of_ble_eq_true rfl) ?_
  show Wa G Y_X8_addRow (ZI G Y_X8_addRow Q) 0 0 n μ 0 [(0, .inr v0)] []
  refine a_aload_n (k := 0) dX8_addRow_0 rfl rfl ?_
  refine g_X8_25 rfl dX8_addRow_1 (St_ho hg o0) ?_
  refine a_iconst dX8_addRow_4 (by decide) ?_
  obtain ⟨q1, h⟩ := h
  refine a_iadd dX8_addRow_5 q1 ?_
  refine a_aload_n (k := 0) dX8_addRow_6 rfl rfl ?_
  refine gs_X8_9 rfl dX8_addRow_7 hg o0 ?_
  obtain ⟨q2, h⟩ := h
  refine a_imul dX8_addRow_10 q2 ?_
  refine a_aload_n (k := 0) dX8_addRow_11 rfl rfl ?_
  refine gs_X8_21 rfl dX8_addRow_12 hg o0 ?_
  obtain ⟨q3, h⟩ := h
  refine a_alen (N := (SH (v0 + 1)).2) (t0 := 0) dX8_addRow_15 (by decide) q3 rfl (St_ho hg (st_8_1 o0)) ?_
  refine a_icmp_le (tgt := 21) dX8_addRow_16 (by decide) (fun c4 => ?_) (fun c4 => ?_)
  · replace h := h.1 c4
    refine a_aload_n (k := 0) dX8_addRow_21 rfl rfl ?_
    refine a_dup dX8_addRow_22 ?_
    refine g_X8_25 rfl dX8_addRow_23 (St_ho hg o0) ?_
    refine a_iconst dX8_addRow_26 (by decide) ?_
    obtain ⟨q5, h⟩ := h
    refine a_iadd dX8_addRow_27 q5 ?_
    refine p_X8_25 rfl dX8_addRow_28 (St_ho hg o0) (FX_put hg o0 rfl) ?_
    refine a_aload_n (k := 0) dX8_addRow_31 rfl rfl ?_
    refine g_X8_25 rfl dX8_addRow_32 (St_ho hg o0) ?_
    refine a_iconst dX8_addRow_35 (by decide) ?_
    obtain ⟨q6, h⟩ := h
    refine a_isub dX8_addRow_36 q6 ?_
    exact a_iret dX8_addRow_37 rfl (Nat.le_of_ble_eq_true rfl) (Nat.le_of_ble_eq_true rfl) h
  · replace h := h.2 c4
    refine a_iconst dX8_addRow_19 (by decide) ?_
    exact a_iret dX8_addRow_20 rfl (Nat.le_of_ble_eq_true rfl) (Nat.le_of_ble_eq_true rfl) h
theorem m_X8_cut {G : GT} (hg : gx G = FX) {n : Nat} {μ : Mem} {Q : Nat → Mem → Prop} {v0 v1 : Int} (o0 : St v0 8 3) (h : (Q n (up μ v0 2 (if 0 < (if v1 < μ v0 2 then v1 else μ v0 2) then (if v1 < μ v0 2 then v1 else μ v0 2) else 0)))) : CV G Y_X8_cut [.inr v0, .inl v1] n μ Q := by
  refine e_V (by decide) (Nat.le_of_ble_eq_true rfl) ?_
  show Wa G Y_X8_cut (ZV G Y_X8_cut Q) 0 0 n μ 0 [(0, .inr v0), (1, .inl v1)] []
  refine a_aload_n (k := 0) dX8_cut_0 rfl rfl ?_
  refine a_iconst dX8_cut_1 (by decide) ?_
  refine a_aload_n (k := 0) dX8_cut_2 rfl rfl ?_
  refine g_X8_25 rfl dX8_cut_3 (St_ho hg o0) ?_
  refine a_iload_n (k := 1) dX8_cut_6 rfl rfl ?_
  refine k_X8_28 rfl dX8_cut_7 (Nat.le_of_ble_eq_true rfl) rfl rfl (Nat.le_of_ble_eq_true rfl) (Nat.le_of_ble_eq_true rfl) ?_
  refine k_X8_15 rfl dX8_cut_10 (Nat.le_of_ble_eq_true rfl) rfl rfl (Nat.le_of_ble_eq_true rfl) (Nat.le_of_ble_eq_true rfl) ?_
  refine p_X8_25 rfl dX8_cut_13 (St_ho hg o0) (FX_put hg o0 rfl) ?_
  exact a_ret dX8_cut_16 rfl (Nat.le_of_ble_eq_true rfl) (Nat.le_of_ble_eq_true rfl) h
abbrev B_X8_removeFirstRow_2 (G : GT) (Q : Nat → Mem → Prop) (n : Nat) (μ : Mem) (v0 : Int) (v1 : Int) : Prop := Wa G Y_X8_removeFirstRow (ZV G Y_X8_removeFirstRow Q) 0 0 n μ 2 [(0, .inr v0), (1, .inl v1)] []
abbrev B_X8_removeFirstRow_12 (G : GT) (Q : Nat → Mem → Prop) (n : Nat) (μ : Mem) (v0 : Int) (v1 : Int) (v2 : Int) : Prop := Wa G Y_X8_removeFirstRow (ZV G Y_X8_removeFirstRow Q) 0 0 n μ 12 [(0, .inr v0), (1, .inl v1), (2, .inl v2)] []
theorem m_X8_removeFirstRow {G : GT} (hg : gx G = FX) {n : Nat} {μ : Mem} {Q : Nat → Mem → Prop} {v0 : Int} (o0 : St v0 8 3) (h : (B_X8_removeFirstRow_2 G Q n μ v0 1)) : CV G Y_X8_removeFirstRow [.inr v0] n μ Q := by
  refine e_V (by decide) (Nat.le_of_ble_eq_true rfl) ?_
  show Wa G Y_X8_removeFirstRow (ZV G Y_X8_removeFirstRow Q) 0 0 n μ 0 [(0, .inr v0)] []
  refine a_iconst dX8_removeFirstRow_0 (by decide) ?_
  refine b_istore_n (L' := [(0, .inr v0), (1, .inl 1)]) [1, 0] dX8_removeFirstRow_1 rfl (by decide) rfl ?_
  exact h
theorem b_X8_removeFirstRow_2 {G : GT} (hg : gx G = FX) {n : Nat} {μ : Mem} {Q : Nat → Mem → Prop} {v0 v1 : Int} (o0 : St v0 8 3) (h : (((μ v0 2) ≤ v1 → ((inR ((μ v0 2) - 1)) ∧ (CV G Y_X8_cut [.inr v0, .inl ((μ v0 2) - 1)] n μ (fun (n4 : Nat) (μ5 : Mem) => (Q n4 μ5))))) ∧ (¬ ((μ v0 2) ≤ v1) → (B_X8_removeFirstRow_12 G Q n μ v0 v1 0)))) : B_X8_removeFirstRow_2 G Q n μ v0 v1 := by
  show Wa G Y_X8_removeFirstRow (ZV G Y_X8_removeFirstRow Q) 0 0 n μ 2 [(0, .inr v0), (1, .inl v1)] []
  refine a_iload_n (k := 1) dX8_removeFirstRow_2 rfl rfl ?_
  refine a_aload_n (k := 0) dX8_removeFirstRow_3 rfl rfl ?_
  refine g_X8_25 rfl dX8_removeFirstRow_4 (St_ho hg o0) ?_
  refine a_icmp_ge (tgt := 46) dX8_removeFirstRow_7 (by decide) (fun c1 => ?_) (fun c1 => ?_)
  · replace h := h.1 c1
    refine a_aload_n (k := 0) dX8_removeFirstRow_46 rfl rfl ?_
    refine a_aload_n (k := 0) dX8_removeFirstRow_47 rfl rfl ?_
    refine g_X8_25 rfl dX8_removeFirstRow_48 (St_ho hg o0) ?_
    refine a_iconst dX8_removeFirstRow_51 (by decide) ?_
    obtain ⟨q2, h⟩ := h
    refine a_isub dX8_removeFirstRow_52 q2 ?_
    refine k_X8_38 rfl dX8_removeFirstRow_53 (Nat.le_of_ble_eq_true rfl) rfl (Nat.le_of_ble_eq_true rfl) (Nat.le_of_ble_eq_true rfl) (St_ho hg o0) h (fun n4 μ5 h => ?_)
    exact a_ret dX8_removeFirstRow_56 rfl (Nat.le_of_ble_eq_true rfl) (Nat.le_of_ble_eq_true rfl) h
  · replace h := h.2 c1
    refine a_iconst dX8_removeFirstRow_10 (by decide) ?_
    refine b_istore_n (L' := [(0, .inr v0), (1, .inl v1), (2, .inl 0)]) [1, 2, 0] dX8_removeFirstRow_11 rfl (by decide) rfl ?_
    exact h
theorem b_X8_removeFirstRow_12 {G : GT} (hg : gx G = FX) {n : Nat} {μ : Mem} {Q : Nat → Mem → Prop} {v0 v1 v2 : Int} (o0 : St v0 8 3) (h : (((colsOf (SH (v0 + 1)).2) ≤ v2 → ((inR (v1 + 1)) ∧ (B_X8_removeFirstRow_2 G Q n μ v0 (v1 + 1)))) ∧ (¬ ((colsOf (SH (v0 + 1)).2) ≤ v2) → ((inR (v1 - 1)) ∧ (CI G Y_X8_at [.inr v0, .inl v1, .inl v2] n μ (fun (x4 : Int) (n5 : Nat) (μ6 : Mem) => (CV G Y_X8_put [.inr v0, .inl (v1 - 1), .inl v2, .inl x4] n5 μ6 (fun (n8 : Nat) (μ9 : Mem) => ((inR (v2 + 1)) ∧ (B_X8_removeFirstRow_12 G Q n8 μ9 v0 v1 (v2 + 1))))))))))) : B_X8_removeFirstRow_12 G Q n μ v0 v1 v2 := by
  show Wa G Y_X8_removeFirstRow (ZV G Y_X8_removeFirstRow Q) 0 0 n μ 12 [(0, .inr v0), (1, .inl v1), (2, .inl v2)] []
  refine a_iload_n (k := 2) dX8_removeFirstRow_12 rfl rfl ?_
  refine a_aload_n (k := 0) dX8_removeFirstRow_13 rfl rfl ?_
  refine gs_X8_9 rfl dX8_removeFirstRow_14 hg o0 ?_
  refine a_icmp_ge (tgt := 40) dX8_removeFirstRow_17 (by decide) (fun c1 => ?_) (fun c1 => ?_)
  · replace h := h.1 c1
    obtain ⟨q2, h⟩ := h
    refine b_iinc (L' := [(0, .inr v0), (1, .inl (v1 + 1)), (2, .inl v2)]) (k := 1) [1, 0, 2] dX8_removeFirstRow_40 rfl q2 (by decide) rfl ?_
    refine a_goto (tgt := 2) dX8_removeFirstRow_43 (by decide) ?_
    refine a_sub [0, 1] rfl ?_
    exact h
  · replace h := h.2 c1
    refine a_aload_n (k := 0) dX8_removeFirstRow_20 rfl rfl ?_
    refine a_iload_n (k := 1) dX8_removeFirstRow_21 rfl rfl ?_
    refine a_iconst dX8_removeFirstRow_22 (by decide) ?_
    obtain ⟨q3, h⟩ := h
    refine a_isub dX8_removeFirstRow_23 q3 ?_
    refine a_iload_n (k := 2) dX8_removeFirstRow_24 rfl rfl ?_
    refine a_aload_n (k := 0) dX8_removeFirstRow_25 rfl rfl ?_
    refine a_iload_n (k := 1) dX8_removeFirstRow_26 rfl rfl ?_
    refine a_iload_n (k := 2) dX8_removeFirstRow_27 rfl rfl ?_
    refine k_X8_31 rfl dX8_removeFirstRow_28 (Nat.le_of_ble_eq_true rfl) rfl (Nat.le_of_ble_eq_true rfl) (Nat.le_of_ble_eq_true rfl) (St_ho hg o0) h (fun x4 n5 μ6 h => ?_)
    refine k_X8_34 rfl dX8_removeFirstRow_31 (Nat.le_of_ble_eq_true rfl) rfl (Nat.le_of_ble_eq_true rfl) (Nat.le_of_ble_eq_true rfl) (St_ho hg o0) h (fun n8 μ9 h => ?_)
    obtain ⟨q10, h⟩ := h
    refine b_iinc (L' := [(0, .inr v0), (1, .inl v1), (2, .inl (v2 + 1))]) (k := 2) [1, 2, 0] dX8_removeFirstRow_34 rfl q10 (by decide) rfl ?_
    refine a_goto (tgt := 12) dX8_removeFirstRow_37 (by decide) ?_
    exact h
theorem m_X8_copyFrom {G : GT} (hg : gx G = FX) {n : Nat} {μ : Mem} {Q : Nat → Mem → Prop} {v0 v1 : Int} (o0 : St v0 8 3) (o1 : St v1 8 3) (h : (CV G Y_X8_appendFrom [.inr v0, .inr v1] n (up μ v0 2 0) (fun (n2 : Nat) (μ3 : Mem) => (Q n2 μ3)))) : CV G Y_X8_copyFrom [.inr v0, .inr v1] n μ Q := by
  refine e_V (by decide) (Nat.le_of_ble_eq_true rfl) ?_
  show Wa G Y_X8_copyFrom (ZV G Y_X8_copyFrom Q) 0 0 n μ 0 [(0, .inr v0), (1, .inr v1)] []
  refine a_aload_n (k := 0) dX8_copyFrom_0 rfl rfl ?_
  refine a_iconst dX8_copyFrom_1 (by decide) ?_
  refine p_X8_25 rfl dX8_copyFrom_2 (St_ho hg o0) (FX_put hg o0 rfl) ?_
  refine a_aload_n (k := 0) dX8_copyFrom_5 rfl rfl ?_
  refine a_aload_n (k := 1) dX8_copyFrom_6 rfl rfl ?_
  refine k_X8_42 rfl dX8_copyFrom_7 (Nat.le_of_ble_eq_true rfl) rfl (Nat.le_of_ble_eq_true rfl) (Nat.le_of_ble_eq_true rfl) (St_ho hg o0) h (fun n2 μ3 h => ?_)
  exact a_ret dX8_copyFrom_10 rfl (Nat.le_of_ble_eq_true rfl) (Nat.le_of_ble_eq_true rfl) h
abbrev B_X8_appendFrom_2 (G : GT) (Q : Nat → Mem → Prop) (n : Nat) (μ : Mem) (v0 : Int) (v1 : Int) (v2 : Int) : Prop := Wa G Y_X8_appendFrom (ZV G Y_X8_appendFrom Q) 0 0 n μ 2 [(0, .inr v0), (1, .inr v1), (2, .inl v2)] []
abbrev B_X8_appendFrom_18 (G : GT) (Q : Nat → Mem → Prop) (n : Nat) (μ : Mem) (v0 : Int) (v1 : Int) (v2 : Int) (v3 : Int) (v4 : Int) : Prop := Wa G Y_X8_appendFrom (ZV G Y_X8_appendFrom Q) 0 0 n μ 18 [(0, .inr v0), (1, .inr v1), (2, .inl v2), (3, .inl v3), (4, .inl v4)] []
theorem m_X8_appendFrom {G : GT} (hg : gx G = FX) {n : Nat} {μ : Mem} {Q : Nat → Mem → Prop} {v0 v1 : Int} (o0 : St v0 8 3) (o1 : St v1 8 3) (h : (B_X8_appendFrom_2 G Q n μ v0 v1 0)) : CV G Y_X8_appendFrom [.inr v0, .inr v1] n μ Q := by
  refine e_V (by decide) (Nat.le_of_ble_eq_true rfl) ?_
  show Wa G Y_X8_appendFrom (ZV G Y_X8_appendFrom Q) 0 0 n μ 0 [(0, .inr v0), (1, .inr v1)] []
  refine a_iconst dX8_appendFrom_0 (by decide) ?_
  refine b_istore_n (L' := [(0, .inr v0), (1, .inr v1), (2, .inl 0)]) [1, 2, 0] dX8_appendFrom_1 rfl (by decide) rfl ?_
  exact h
theorem b_X8_appendFrom_2 {G : GT} (hg : gx G = FX) {n : Nat} {μ : Mem} {Q : Nat → Mem → Prop} {v0 v1 v2 : Int} (o0 : St v0 8 3) (o1 : St v1 8 3) (h : (((μ v1 2) ≤ v2 → (Q n μ)) ∧ (¬ ((μ v1 2) ≤ v2) → (CI G Y_X8_addRow [.inr v0] n μ (fun (x2 : Int) (n3 : Nat) (μ4 : Mem) => (B_X8_appendFrom_18 G Q n3 μ4 v0 v1 v2 x2 0)))))) : B_X8_appendFrom_2 G Q n μ v0 v1 v2 := by
  show Wa G Y_X8_appendFrom (ZV G Y_X8_appendFrom Q) 0 0 n μ 2 [(0, .inr v0), (1, .inr v1), (2, .inl v2)] []
  refine a_iload_n (k := 2) dX8_appendFrom_2 rfl rfl ?_
  refine a_aload_n (k := 1) dX8_appendFrom_3 rfl rfl ?_
  refine g_X8_25 rfl dX8_appendFrom_4 (St_ho hg o1) ?_
  refine a_icmp_ge (tgt := 53) dX8_appendFrom_7 (by decide) (fun c1 => ?_) (fun c1 => ?_)
  · replace h := h.1 c1
    exact a_ret dX8_appendFrom_53 rfl (Nat.le_of_ble_eq_true rfl) (Nat.le_of_ble_eq_true rfl) h
  · replace h := h.2 c1
    refine a_aload_n (k := 0) dX8_appendFrom_10 rfl rfl ?_
    refine k_X8_46 rfl dX8_appendFrom_11 (Nat.le_of_ble_eq_true rfl) rfl (Nat.le_of_ble_eq_true rfl) (Nat.le_of_ble_eq_true rfl) (St_ho hg o0) h (fun x2 n3 μ4 h => ?_)
    refine b_istore_n (L' := [(0, .inr v0), (1, .inr v1), (2, .inl v2), (3, .inl x2)]) [1, 2, 3, 0] dX8_appendFrom_14 rfl (by decide) rfl ?_
    refine a_iconst dX8_appendFrom_15 (by decide) ?_
    refine b_istore (L' := [(0, .inr v0), (1, .inr v1), (2, .inl v2), (3, .inl x2), (4, .inl 0)]) [1, 2, 3, 4, 0] dX8_appendFrom_16 (by decide) rfl ?_
    exact h
theorem b_X8_appendFrom_18 {G : GT} (hg : gx G = FX) {n : Nat} {μ : Mem} {Q : Nat → Mem → Prop} {v0 v1 v2 v3 v4 : Int} (o0 : St v0 8 3) (o1 : St v1 8 3) (h : (((colsOf (SH (v0 + 1)).2) ≤ v4 → ((inR (v2 + 1)) ∧ (B_X8_appendFrom_2 G Q n μ v0 v1 (v2 + 1)))) ∧ (¬ ((colsOf (SH (v0 + 1)).2) ≤ v4) → (CI G Y_X8_at [.inr v1, .inl v2, .inl v4] n μ (fun (x3 : Int) (n4 : Nat) (μ5 : Mem) => (CV G Y_X8_put [.inr v0, .inl v3, .inl v4, .inl x3] n4 μ5 (fun (n7 : Nat) (μ8 : Mem) => ((inR (v4 + 1)) ∧ (B_X8_appendFrom_18 G Q n7 μ8 v0 v1 v2 v3 (v4 + 1)))))))))) : B_X8_appendFrom_18 G Q n μ v0 v1 v2 v3 v4 := by
  show Wa G Y_X8_appendFrom (ZV G Y_X8_appendFrom Q) 0 0 n μ 18 [(0, .inr v0), (1, .inr v1), (2, .inl v2), (3, .inl v3), (4, .inl v4)] []
  refine a_iload (k := 4) dX8_appendFrom_18 rfl ?_
  refine a_aload_n (k := 0) dX8_appendFrom_20 rfl rfl ?_
  refine gs_X8_9 rfl dX8_appendFrom_21 hg o0 ?_
  refine a_icmp_ge (tgt := 47) dX8_appendFrom_24 (by decide) (fun c1 => ?_) (fun c1 => ?_)
  · replace h := h.1 c1
    obtain ⟨q2, h⟩ := h
    refine b_iinc (L' := [(0, .inr v0), (1, .inr v1), (2, .inl (v2 + 1)), (3, .inl v3), (4, .inl v4)]) (k := 2) [1, 2, 0, 3, 4] dX8_appendFrom_47 rfl q2 (by decide) rfl ?_
    refine a_goto (tgt := 2) dX8_appendFrom_50 (by decide) ?_
    refine a_sub [0, 1, 2] rfl ?_
    exact h
  · replace h := h.2 c1
    refine a_aload_n (k := 0) dX8_appendFrom_27 rfl rfl ?_
    refine a_iload_n (k := 3) dX8_appendFrom_28 rfl rfl ?_
    refine a_iload (k := 4) dX8_appendFrom_29 rfl ?_
    refine a_aload_n (k := 1) dX8_appendFrom_31 rfl rfl ?_
    refine a_iload_n (k := 2) dX8_appendFrom_32 rfl rfl ?_
    refine a_iload (k := 4) dX8_appendFrom_33 rfl ?_
    refine k_X8_31 rfl dX8_appendFrom_35 (Nat.le_of_ble_eq_true rfl) rfl (Nat.le_of_ble_eq_true rfl) (Nat.le_of_ble_eq_true rfl) (St_ho hg o1) h (fun x3 n4 μ5 h => ?_)
    refine k_X8_34 rfl dX8_appendFrom_38 (Nat.le_of_ble_eq_true rfl) rfl (Nat.le_of_ble_eq_true rfl) (Nat.le_of_ble_eq_true rfl) (St_ho hg o0) h (fun n7 μ8 h => ?_)
    obtain ⟨q9, h⟩ := h
    refine b_iinc (L' := [(0, .inr v0), (1, .inr v1), (2, .inl v2), (3, .inl v3), (4, .inl (v4 + 1))]) (k := 4) [1, 2, 3, 4, 0] dX8_appendFrom_41 rfl q9 (by decide) rfl ?_
    refine a_goto (tgt := 18) dX8_appendFrom_44 (by decide) ?_
    exact h
theorem m_X9_isFull {G : GT} (hg : gx G = FX) {n : Nat} {μ : Mem} {Q : Int → Nat → Mem → Prop}  (h : (((μ 1 1) < 150 → (Q 0 n μ)) ∧ (¬ ((μ 1 1) < 150) → (Q 1 n μ)))) : CI G Y_X9_isFull [.inr 1] n μ Q := by
  refine e_I (by decide) (Nat.le_of_ble_eq_true rfl) ?_
  show Wa G Y_X9_isFull (ZI G Y_X9_isFull Q) 0 0 n μ 0 [(0, .inr 1)] []
  refine a_aload_n (k := 0) dX9_isFull_0 rfl rfl ?_
  refine g_X9_15 rfl dX9_isFull_1 (St_ho hg St_1) ?_
  refine a_aload_n (k := 0) dX9_isFull_4 rfl rfl ?_
  refine gs_X9_9 rfl dX9_isFull_5 hg St_1 ?_
  refine a_alen (N := 150) (t0 := 0) dX9_isFull_8 (by decide) (by decide) rfl (St_ho hg (st_9_1 St_1)) ?_
  refine a_icmp_lt (tgt := 16) dX9_isFull_9 (by decide) (fun c1 => ?_) (fun c1 => ?_)
  · replace h := h.1 c1
    refine a_iconst dX9_isFull_16 (by decide) ?_
    exact a_zret dX9_isFull_17 rfl (Nat.le_of_ble_eq_true rfl) (Nat.le_of_ble_eq_true rfl) (by decide) h
  · replace h := h.2 c1
    refine a_iconst dX9_isFull_12 (by decide) ?_
    refine a_goto (tgt := 17) dX9_isFull_13 (by decide) ?_
    exact a_zret dX9_isFull_17 rfl (Nat.le_of_ble_eq_true rfl) (Nat.le_of_ble_eq_true rfl) (by decide) h
theorem m_X9_append {G : GT} (hg : gx G = FX) {n : Nat} {μ : Mem} {Q : Nat → Mem → Prop} {v1 : Int}  (h : (((μ 1 1) < 0 → (Q n μ)) ∧ (¬ ((μ 1 1) < 0) → ((150 ≤ (μ 1 1) → (Q n μ)) ∧ (¬ (150 ≤ (μ 1 1)) → (((0 : Int) ≤ μ 1 1 ∧ μ 1 1 < 150) ∧ ((inR (((up μ 2 (μ 1 1) v1) 1 1) + 1)) ∧ (Q n (up (up μ 2 (μ 1 1) v1) 1 1 (((up μ 2 (μ 1 1) v1) 1 1) + 1)))))))))) : CV G Y_X9_append [.inr 1, .inl v1] n μ Q := by
  refine e_V (by decide) (Nat.le_of_ble_eq_true rfl) ?_
  show Wa G Y_X9_append (ZV G Y_X9_append Q) 0 0 n μ 0 [(0, .inr 1), (1, .inl v1)] []
  refine a_aload_n (k := 0) dX9_append_0 rfl rfl ?_
  refine g_X9_15 rfl dX9_append_1 (St_ho hg St_1) ?_
  refine a_if_lt (tgt := 39) dX9_append_4 (by decide) (fun c1 => ?_) (fun c1 => ?_)
  · replace h := h.1 c1
    exact a_ret dX9_append_39 rfl (Nat.le_of_ble_eq_true rfl) (Nat.le_of_ble_eq_true rfl) h
  · replace h := h.2 c1
    refine a_aload_n (k := 0) dX9_append_7 rfl rfl ?_
    refine g_X9_15 rfl dX9_append_8 (St_ho hg St_1) ?_
    refine a_aload_n (k := 0) dX9_append_11 rfl rfl ?_
    refine gs_X9_9 rfl dX9_append_12 hg St_1 ?_
    refine a_alen (N := 150) (t0 := 0) dX9_append_15 (by decide) (by decide) rfl (St_ho hg (st_9_1 St_1)) ?_
    refine a_icmp_ge (tgt := 39) dX9_append_16 (by decide) (fun c2 => ?_) (fun c2 => ?_)
    · replace h := h.1 c2
      exact a_ret dX9_append_39 rfl (Nat.le_of_ble_eq_true rfl) (Nat.le_of_ble_eq_true rfl) h
    · replace h := h.2 c2
      refine a_aload_n (k := 0) dX9_append_19 rfl rfl ?_
      refine gs_X9_9 rfl dX9_append_20 hg St_1 ?_
      refine a_aload_n (k := 0) dX9_append_23 rfl rfl ?_
      refine g_X9_15 rfl dX9_append_24 (St_ho hg St_1) ?_
      refine a_iload_n (k := 1) dX9_append_27 rfl rfl ?_
      obtain ⟨q3, h⟩ := h
      refine a_iastore dX9_append_28 (St_ho hg (st_9_1 St_1)) q3.1 q3.2 (FX_put hg (st_9_1 St_1) rfl) ?_
      refine a_aload_n (k := 0) dX9_append_29 rfl rfl ?_
      refine a_dup dX9_append_30 ?_
      refine g_X9_15 rfl dX9_append_31 (St_ho hg St_1) ?_
      refine a_iconst dX9_append_34 (by decide) ?_
      obtain ⟨q4, h⟩ := h
      refine a_iadd dX9_append_35 q4 ?_
      refine p_X9_15 rfl dX9_append_36 (St_ho hg St_1) (FX_put hg St_1 rfl) ?_
      exact a_ret dX9_append_39 rfl (Nat.le_of_ble_eq_true rfl) (Nat.le_of_ble_eq_true rfl) h
theorem m_X9_empty {G : GT} (hg : gx G = FX) {n : Nat} {μ : Mem} {Q : Nat → Mem → Prop}  (h : (Q n (up μ 1 1 0))) : CV G Y_X9_empty [.inr 1] n μ Q := by
  refine e_V (by decide) (Nat.le_of_ble_eq_true rfl) ?_
  show Wa G Y_X9_empty (ZV G Y_X9_empty Q) 0 0 n μ 0 [(0, .inr 1)] []
  refine a_aload_n (k := 0) dX9_empty_0 rfl rfl ?_
  refine a_iconst dX9_empty_1 (by decide) ?_
  refine p_X9_15 rfl dX9_empty_2 (St_ho hg St_1) (FX_put hg St_1 rfl) ?_
  exact a_ret dX9_empty_5 rfl (Nat.le_of_ble_eq_true rfl) (Nat.le_of_ble_eq_true rfl) h
theorem m_X9_byteAt {G : GT} (hg : gx G = FX) {n : Nat} {μ : Mem} {Q : Int → Nat → Mem → Prop} {v1 : Int}  (h : ((v1 < 0 → (Q (-9) n μ)) ∧ (¬ (v1 < 0) → (((μ 1 1) ≤ v1 → (Q (-9) n μ)) ∧ (¬ ((μ 1 1) ≤ v1) → ((v1 < 150 → (((0 : Int) ≤ v1 ∧ v1 < 150) ∧ (Q (μ 2 v1) n μ))) ∧ (¬ (v1 < 150) → (Q (-9) n μ)))))))) : CI G Y_X9_byteAt [.inr 1, .inl v1] n μ Q := by
  refine e_I (by decide) (Nat.le_of_ble_eq_true rfl) ?_
  show Wa G Y_X9_byteAt (ZI G Y_X9_byteAt Q) 0 0 n μ 0 [(0, .inr 1), (1, .inl v1)] []
  refine a_iload_n (k := 1) dX9_byteAt_0 rfl rfl ?_
  refine a_if_lt (tgt := 21) dX9_byteAt_1 (by decide) (fun c1 => ?_) (fun c1 => ?_)
  · replace h := h.1 c1
    refine a_bipush dX9_byteAt_21 (by decide) (by decide) ?_
    exact a_iret dX9_byteAt_23 rfl (Nat.le_of_ble_eq_true rfl) (Nat.le_of_ble_eq_true rfl) h
  · replace h := h.2 c1
    refine a_iload_n (k := 1) dX9_byteAt_4 rfl rfl ?_
    refine a_aload_n (k := 0) dX9_byteAt_5 rfl rfl ?_
    refine g_X9_15 rfl dX9_byteAt_6 (St_ho hg St_1) ?_
    refine a_icmp_ge (tgt := 21) dX9_byteAt_9 (by decide) (fun c2 => ?_) (fun c2 => ?_)
    · replace h := h.1 c2
      refine a_bipush dX9_byteAt_21 (by decide) (by decide) ?_
      exact a_iret dX9_byteAt_23 rfl (Nat.le_of_ble_eq_true rfl) (Nat.le_of_ble_eq_true rfl) h
    · replace h := h.2 c2
      refine a_iload_n (k := 1) dX9_byteAt_12 rfl rfl ?_
      refine a_aload_n (k := 0) dX9_byteAt_13 rfl rfl ?_
      refine gs_X9_9 rfl dX9_byteAt_14 hg St_1 ?_
      refine a_alen (N := 150) (t0 := 0) dX9_byteAt_17 (by decide) (by decide) rfl (St_ho hg (st_9_1 St_1)) ?_
      refine a_icmp_lt (tgt := 24) dX9_byteAt_18 (by decide) (fun c3 => ?_) (fun c3 => ?_)
      · replace h := h.1 c3
        refine a_aload_n (k := 0) dX9_byteAt_24 rfl rfl ?_
        refine gs_X9_9 rfl dX9_byteAt_25 hg St_1 ?_
        refine a_iload_n (k := 1) dX9_byteAt_28 rfl rfl ?_
        obtain ⟨q4, h⟩ := h
        refine a_iaload dX9_byteAt_29 (St_ho hg (st_9_1 St_1)) q4.1 q4.2 ?_
        exact a_iret dX9_byteAt_30 rfl (Nat.le_of_ble_eq_true rfl) (Nat.le_of_ble_eq_true rfl) h
      · replace h := h.2 c3
        refine a_bipush dX9_byteAt_21 (by decide) (by decide) ?_
        exact a_iret dX9_byteAt_23 rfl (Nat.le_of_ble_eq_true rfl) (Nat.le_of_ble_eq_true rfl) h
theorem m_X1_ticksFor {G : GT} (hg : gx G = FX) {n : Nat} {μ : Mem} {Q : Int → Nat → Mem → Prop} {v0 v1 : Int}  (h : ((Co n v0) ∧ ((1 ≤ (μ v0 4) → ((Co n v0) ∧ ((inR (v1 + (μ v0 4))) ∧ ((inR ((v1 + (μ v0 4)) - 1)) ∧ ((Co n v0) ∧ (((0 : Int) ≤ (v1 + (μ v0 4)) - 1 ∧ (0 : Int) < μ v0 4) ∧ (Q (((v1 + (μ v0 4)) - 1) / (μ v0 4)) n μ))))))) ∧ (¬ (1 ≤ (μ v0 4)) → (Q 1000 n μ))))) : CI G Y_X1_ticksFor [.inr v0, .inl v1] n μ Q := by
  refine e_I (by decide) (Nat.le_of_ble_eq_true rfl) ?_
  show Wa G Y_X1_ticksFor (ZI G Y_X1_ticksFor Q) 0 0 n μ 0 [(0, .inr v0), (1, .inl v1)] []
  refine a_aload_n (k := 0) dX1_ticksFor_0 rfl rfl ?_
  obtain ⟨q1, h⟩ := h
  refine g_X1_24 rfl dX1_ticksFor_1 (fun _ => q1) ?_
  refine a_iconst dX1_ticksFor_4 (by decide) ?_
  refine a_icmp_ge (tgt := 14) dX1_ticksFor_5 (by decide) (fun c2 => ?_) (fun c2 => ?_)
  · replace h := h.1 c2
    refine a_iload_n (k := 1) dX1_ticksFor_14 rfl rfl ?_
    refine a_aload_n (k := 0) dX1_ticksFor_15 rfl rfl ?_
    obtain ⟨q3, h⟩ := h
    refine g_X1_24 rfl dX1_ticksFor_16 (fun _ => q3) ?_
    obtain ⟨q4, h⟩ := h
    refine a_iadd dX1_ticksFor_19 q4 ?_
    refine a_iconst dX1_ticksFor_20 (by decide) ?_
    obtain ⟨q5, h⟩ := h
    refine a_isub dX1_ticksFor_21 q5 ?_
    refine a_aload_n (k := 0) dX1_ticksFor_22 rfl rfl ?_
    obtain ⟨q6, h⟩ := h
    refine g_X1_24 rfl dX1_ticksFor_23 (fun _ => q6) ?_
    obtain ⟨q7, h⟩ := h
    refine a_idiv dX1_ticksFor_26 q7.1 q7.2 ?_
    exact a_iret dX1_ticksFor_27 rfl (Nat.le_of_ble_eq_true rfl) (Nat.le_of_ble_eq_true rfl) h
  · replace h := h.2 c2
    refine a_sipush dX1_ticksFor_8 (by decide) (by decide) ?_
    refine a_goto (tgt := 27) dX1_ticksFor_11 (by decide) ?_
    exact a_iret dX1_ticksFor_27 rfl (Nat.le_of_ble_eq_true rfl) (Nat.le_of_ble_eq_true rfl) h
theorem m_X1_property {G : GT} (hg : gx G = FX) {n : Nat} {μ : Mem} {Q : Int → Nat → Mem → Prop} {v0 v1 : Int}  (h : (((v1 < 0 ∨ 5 < v1) → (Q (-1) n μ)) ∧ (v1 = 0 → ((Co n v0) ∧ (Q (μ v0 0) n μ))) ∧ (v1 = 1 → ((Co n v0) ∧ (Q (μ v0 1) n μ))) ∧ (v1 = 2 → ((Co n v0) ∧ (Q (μ v0 2) n μ))) ∧ (v1 = 3 → ((Co n v0) ∧ (Q (μ v0 3) n μ))) ∧ (v1 = 4 → ((Co n v0) ∧ (Q (μ v0 4) n μ))) ∧ (v1 = 5 → ((Co n v0) ∧ (Q (μ v0 5) n μ))))) : CI G Y_X1_property [.inr v0, .inl v1] n μ Q := by
  refine e_I (by decide) (Nat.le_of_ble_eq_true rfl) ?_
  show Wa G Y_X1_property (ZI G Y_X1_property Q) 0 0 n μ 0 [(0, .inr v0), (1, .inl v1)] []
  refine a_iload_n (k := 1) dX1_property_0 rfl rfl ?_
  refine a_table (tgt := 70) dX1_property_1 (by decide) (fun c1 c2 => ?_) (fun c1 => ?_)
  · rcases (show v1 = 0 ∨ v1 = 1 ∨ v1 = 2 ∨ v1 = 3 ∨ v1 = 4 ∨ v1 = 5 by omega) with e3 | e3 | e3 | e3 | e3 | e3
    · replace h := h.2.1 e3
      refine ⟨39, 40, by rw [e3]; rfl, by decide, ?_⟩
      refine a_aload_n (k := 0) dX1_property_40 rfl rfl ?_
      obtain ⟨q4, h⟩ := h
      refine g_X1_9 rfl dX1_property_41 (fun _ => q4) ?_
      exact a_iret dX1_property_44 rfl (Nat.le_of_ble_eq_true rfl) (Nat.le_of_ble_eq_true rfl) h
    · replace h := h.2.2.1 e3
      refine ⟨44, 45, by rw [e3]; rfl, by decide, ?_⟩
      refine a_aload_n (k := 0) dX1_property_45 rfl rfl ?_
      obtain ⟨q5, h⟩ := h
      refine g_X1_15 rfl dX1_property_46 (fun _ => q5) ?_
      exact a_iret dX1_property_49 rfl (Nat.le_of_ble_eq_true rfl) (Nat.le_of_ble_eq_true rfl) h
    · replace h := h.2.2.2.1 e3
      refine ⟨49, 50, by rw [e3]; rfl, by decide, ?_⟩
      refine a_aload_n (k := 0) dX1_property_50 rfl rfl ?_
      obtain ⟨q6, h⟩ := h
      refine g_X1_18 rfl dX1_property_51 (fun _ => q6) ?_
      exact a_iret dX1_property_54 rfl (Nat.le_of_ble_eq_true rfl) (Nat.le_of_ble_eq_true rfl) h
    · replace h := h.2.2.2.2.1 e3
      refine ⟨54, 55, by rw [e3]; rfl, by decide, ?_⟩
      refine a_aload_n (k := 0) dX1_property_55 rfl rfl ?_
      obtain ⟨q7, h⟩ := h
      refine g_X1_21 rfl dX1_property_56 (fun _ => q7) ?_
      exact a_iret dX1_property_59 rfl (Nat.le_of_ble_eq_true rfl) (Nat.le_of_ble_eq_true rfl) h
    · replace h := h.2.2.2.2.2.1 e3
      refine ⟨59, 60, by rw [e3]; rfl, by decide, ?_⟩
      refine a_aload_n (k := 0) dX1_property_60 rfl rfl ?_
      obtain ⟨q8, h⟩ := h
      refine g_X1_24 rfl dX1_property_61 (fun _ => q8) ?_
      exact a_iret dX1_property_64 rfl (Nat.le_of_ble_eq_true rfl) (Nat.le_of_ble_eq_true rfl) h
    · replace h := h.2.2.2.2.2.2 e3
      refine ⟨64, 65, by rw [e3]; rfl, by decide, ?_⟩
      refine a_aload_n (k := 0) dX1_property_65 rfl rfl ?_
      obtain ⟨q9, h⟩ := h
      refine g_X1_27 rfl dX1_property_66 (fun _ => q9) ?_
      exact a_iret dX1_property_69 rfl (Nat.le_of_ble_eq_true rfl) (Nat.le_of_ble_eq_true rfl) h
  · replace h := h.1 c1
    refine a_iconst dX1_property_70 (by decide) ?_
    exact a_iret dX1_property_71 rfl (Nat.le_of_ble_eq_true rfl) (Nat.le_of_ble_eq_true rfl) h
theorem m_J6_bitCount_0f7a4 {G : GT} (hg : gx G = FX) {n : Nat} {μ : Mem} {Q : Int → Nat → Mem → Prop} {v0 : Int}  (h : ((inR (v0 - (iAnd (iUshr v0 1) 1431655765))) ∧ ((inR ((iAnd (v0 - (iAnd (iUshr v0 1) 1431655765)) 858993459) + (iAnd (iUshr (v0 - (iAnd (iUshr v0 1) 1431655765)) 2) 858993459))) ∧ ((inR (((iAnd (v0 - (iAnd (iUshr v0 1) 1431655765)) 858993459) + (iAnd (iUshr (v0 - (iAnd (iUshr v0 1) 1431655765)) 2) 858993459)) + (iUshr ((iAnd (v0 - (iAnd (iUshr v0 1) 1431655765)) 858993459) + (iAnd (iUshr (v0 - (iAnd (iUshr v0 1) 1431655765)) 2) 858993459)) 4))) ∧ ((inR ((iAnd (((iAnd (v0 - (iAnd (iUshr v0 1) 1431655765)) 858993459) + (iAnd (iUshr (v0 - (iAnd (iUshr v0 1) 1431655765)) 2) 858993459)) + (iUshr ((iAnd (v0 - (iAnd (iUshr v0 1) 1431655765)) 858993459) + (iAnd (iUshr (v0 - (iAnd (iUshr v0 1) 1431655765)) 2) 858993459)) 4)) 252645135) + (iUshr (iAnd (((iAnd (v0 - (iAnd (iUshr v0 1) 1431655765)) 858993459) + (iAnd (iUshr (v0 - (iAnd (iUshr v0 1) 1431655765)) 2) 858993459)) + (iUshr ((iAnd (v0 - (iAnd (iUshr v0 1) 1431655765)) 858993459) + (iAnd (iUshr (v0 - (iAnd (iUshr v0 1) 1431655765)) 2) 858993459)) 4)) 252645135) 8))) ∧ ((inR (((iAnd (((iAnd (v0 - (iAnd (iUshr v0 1) 1431655765)) 858993459) + (iAnd (iUshr (v0 - (iAnd (iUshr v0 1) 1431655765)) 2) 858993459)) + (iUshr ((iAnd (v0 - (iAnd (iUshr v0 1) 1431655765)) 858993459) + (iAnd (iUshr (v0 - (iAnd (iUshr v0 1) 1431655765)) 2) 858993459)) 4)) 252645135) + (iUshr (iAnd (((iAnd (v0 - (iAnd (iUshr v0 1) 1431655765)) 858993459) + (iAnd (iUshr (v0 - (iAnd (iUshr v0 1) 1431655765)) 2) 858993459)) + (iUshr ((iAnd (v0 - (iAnd (iUshr v0 1) 1431655765)) 858993459) + (iAnd (iUshr (v0 - (iAnd (iUshr v0 1) 1431655765)) 2) 858993459)) 4)) 252645135) 8)) + (iUshr ((iAnd (((iAnd (v0 - (iAnd (iUshr v0 1) 1431655765)) 858993459) + (iAnd (iUshr (v0 - (iAnd (iUshr v0 1) 1431655765)) 2) 858993459)) + (iUshr ((iAnd (v0 - (iAnd (iUshr v0 1) 1431655765)) 858993459) + (iAnd (iUshr (v0 - (iAnd (iUshr v0 1) 1431655765)) 2) 858993459)) 4)) 252645135) + (iUshr (iAnd (((iAnd (v0 - (iAnd (iUshr v0 1) 1431655765)) 858993459) + (iAnd (iUshr (v0 - (iAnd (iUshr v0 1) 1431655765)) 2) 858993459)) + (iUshr ((iAnd (v0 - (iAnd (iUshr v0 1) 1431655765)) 858993459) + (iAnd (iUshr (v0 - (iAnd (iUshr v0 1) 1431655765)) 2) 858993459)) 4)) 252645135) 8)) 16))) ∧ (Q (iAnd (((iAnd (((iAnd (v0 - (iAnd (iUshr v0 1) 1431655765)) 858993459) + (iAnd (iUshr (v0 - (iAnd (iUshr v0 1) 1431655765)) 2) 858993459)) + (iUshr ((iAnd (v0 - (iAnd (iUshr v0 1) 1431655765)) 858993459) + (iAnd (iUshr (v0 - (iAnd (iUshr v0 1) 1431655765)) 2) 858993459)) 4)) 252645135) + (iUshr (iAnd (((iAnd (v0 - (iAnd (iUshr v0 1) 1431655765)) 858993459) + (iAnd (iUshr (v0 - (iAnd (iUshr v0 1) 1431655765)) 2) 858993459)) + (iUshr ((iAnd (v0 - (iAnd (iUshr v0 1) 1431655765)) 858993459) + (iAnd (iUshr (v0 - (iAnd (iUshr v0 1) 1431655765)) 2) 858993459)) 4)) 252645135) 8)) + (iUshr ((iAnd (((iAnd (v0 - (iAnd (iUshr v0 1) 1431655765)) 858993459) + (iAnd (iUshr (v0 - (iAnd (iUshr v0 1) 1431655765)) 2) 858993459)) + (iUshr ((iAnd (v0 - (iAnd (iUshr v0 1) 1431655765)) 858993459) + (iAnd (iUshr (v0 - (iAnd (iUshr v0 1) 1431655765)) 2) 858993459)) 4)) 252645135) + (iUshr (iAnd (((iAnd (v0 - (iAnd (iUshr v0 1) 1431655765)) 858993459) + (iAnd (iUshr (v0 - (iAnd (iUshr v0 1) 1431655765)) 2) 858993459)) + (iUshr ((iAnd (v0 - (iAnd (iUshr v0 1) 1431655765)) 858993459) + (iAnd (iUshr (v0 - (iAnd (iUshr v0 1) 1431655765)) 2) 858993459)) 4)) 252645135) 8)) 16)) 63) n μ))))))) : CI G Y_J6_bitCount_0f7a4 [.inl v0] n μ Q := by
  refine e_I (by decide) (Nat.le_of_ble_eq_true rfl) ?_
  show Wa G Y_J6_bitCount_0f7a4 (ZI G Y_J6_bitCount_0f7a4 Q) 0 0 n μ 0 [(0, .inl v0)] []
  refine a_iload_n (k := 0) dJ6_bitCount_0f7a4_0 rfl rfl ?_
  refine a_iload_n (k := 0) dJ6_bitCount_0f7a4_1 rfl rfl ?_
  refine a_iconst dJ6_bitCount_0f7a4_2 (by decide) ?_
  refine a_iushr dJ6_bitCount_0f7a4_3 ?_
  refine a_ldcw (k := 1431655765) dJ6_bitCount_0f7a4_4 co_265 (by decide) ?_
  refine a_iand dJ6_bitCount_0f7a4_7 ?_
  obtain ⟨q1, h⟩ := h
  refine a_isub dJ6_bitCount_0f7a4_8 q1 ?_
  refine b_istore_n (L' := [(0, .inl (v0 - (iAnd (iUshr v0 1) 1431655765)))]) [0] dJ6_bitCount_0f7a4_9 rfl (by decide) rfl ?_
  refine a_iload_n (k := 0) dJ6_bitCount_0f7a4_10 rfl rfl ?_
  refine a_ldcw (k := 858993459) dJ6_bitCount_0f7a4_11 co_266 (by decide) ?_
  refine a_iand dJ6_bitCount_0f7a4_14 ?_
  refine a_iload_n (k := 0) dJ6_bitCount_0f7a4_15 rfl rfl ?_
  refine a_iconst dJ6_bitCount_0f7a4_16 (by decide) ?_
  refine a_iushr dJ6_bitCount_0f7a4_17 ?_
  refine a_ldcw (k := 858993459) dJ6_bitCount_0f7a4_18 co_266 (by decide) ?_
  refine a_iand dJ6_bitCount_0f7a4_21 ?_
  obtain ⟨q2, h⟩ := h
  refine a_iadd dJ6_bitCount_0f7a4_22 q2 ?_
  refine b_istore_n (L' := [(0, .inl ((iAnd (v0 - (iAnd (iUshr v0 1) 1431655765)) 858993459) + (iAnd (iUshr (v0 - (iAnd (iUshr v0 1) 1431655765)) 2) 858993459)))]) [0] dJ6_bitCount_0f7a4_23 rfl (by decide) rfl ?_
  refine a_iload_n (k := 0) dJ6_bitCount_0f7a4_24 rfl rfl ?_
  refine a_iload_n (k := 0) dJ6_bitCount_0f7a4_25 rfl rfl ?_
  refine a_iconst dJ6_bitCount_0f7a4_26 (by decide) ?_
  refine a_iushr dJ6_bitCount_0f7a4_27 ?_
  obtain ⟨q3, h⟩ := h
  refine a_iadd dJ6_bitCount_0f7a4_28 q3 ?_
  refine a_ldcw (k := 252645135) dJ6_bitCount_0f7a4_29 co_267 (by decide) ?_
  refine a_iand dJ6_bitCount_0f7a4_32 ?_
  refine b_istore_n (L' := [(0, .inl (iAnd (((iAnd (v0 - (iAnd (iUshr v0 1) 1431655765)) 858993459) + (iAnd (iUshr (v0 - (iAnd (iUshr v0 1) 1431655765)) 2) 858993459)) + (iUshr ((iAnd (v0 - (iAnd (iUshr v0 1) 1431655765)) 858993459) + (iAnd (iUshr (v0 - (iAnd (iUshr v0 1) 1431655765)) 2) 858993459)) 4)) 252645135))]) [0] dJ6_bitCount_0f7a4_33 rfl (by decide) rfl ?_
  refine a_iload_n (k := 0) dJ6_bitCount_0f7a4_34 rfl rfl ?_
  refine a_iload_n (k := 0) dJ6_bitCount_0f7a4_35 rfl rfl ?_
  refine a_bipush dJ6_bitCount_0f7a4_36 (by decide) (by decide) ?_
  refine a_iushr dJ6_bitCount_0f7a4_38 ?_
  obtain ⟨q4, h⟩ := h
  refine a_iadd dJ6_bitCount_0f7a4_39 q4 ?_
  refine b_istore_n (L' := [(0, .inl ((iAnd (((iAnd (v0 - (iAnd (iUshr v0 1) 1431655765)) 858993459) + (iAnd (iUshr (v0 - (iAnd (iUshr v0 1) 1431655765)) 2) 858993459)) + (iUshr ((iAnd (v0 - (iAnd (iUshr v0 1) 1431655765)) 858993459) + (iAnd (iUshr (v0 - (iAnd (iUshr v0 1) 1431655765)) 2) 858993459)) 4)) 252645135) + (iUshr (iAnd (((iAnd (v0 - (iAnd (iUshr v0 1) 1431655765)) 858993459) + (iAnd (iUshr (v0 - (iAnd (iUshr v0 1) 1431655765)) 2) 858993459)) + (iUshr ((iAnd (v0 - (iAnd (iUshr v0 1) 1431655765)) 858993459) + (iAnd (iUshr (v0 - (iAnd (iUshr v0 1) 1431655765)) 2) 858993459)) 4)) 252645135) 8)))]) [0] dJ6_bitCount_0f7a4_40 rfl (by decide) rfl ?_
  refine a_iload_n (k := 0) dJ6_bitCount_0f7a4_41 rfl rfl ?_
  refine a_iload_n (k := 0) dJ6_bitCount_0f7a4_42 rfl rfl ?_
  refine a_bipush dJ6_bitCount_0f7a4_43 (by decide) (by decide) ?_
  refine a_iushr dJ6_bitCount_0f7a4_45 ?_
  obtain ⟨q5, h⟩ := h
  refine a_iadd dJ6_bitCount_0f7a4_46 q5 ?_
  refine b_istore_n (L' := [(0, .inl (((iAnd (((iAnd (v0 - (iAnd (iUshr v0 1) 1431655765)) 858993459) + (iAnd (iUshr (v0 - (iAnd (iUshr v0 1) 1431655765)) 2) 858993459)) + (iUshr ((iAnd (v0 - (iAnd (iUshr v0 1) 1431655765)) 858993459) + (iAnd (iUshr (v0 - (iAnd (iUshr v0 1) 1431655765)) 2) 858993459)) 4)) 252645135) + (iUshr (iAnd (((iAnd (v0 - (iAnd (iUshr v0 1) 1431655765)) 858993459) + (iAnd (iUshr (v0 - (iAnd (iUshr v0 1) 1431655765)) 2) 858993459)) + (iUshr ((iAnd (v0 - (iAnd (iUshr v0 1) 1431655765)) 858993459) + (iAnd (iUshr (v0 - (iAnd (iUshr v0 1) 1431655765)) 2) 858993459)) 4)) 252645135) 8)) + (iUshr ((iAnd (((iAnd (v0 - (iAnd (iUshr v0 1) 1431655765)) 858993459) + (iAnd (iUshr (v0 - (iAnd (iUshr v0 1) 1431655765)) 2) 858993459)) + (iUshr ((iAnd (v0 - (iAnd (iUshr v0 1) 1431655765)) 858993459) + (iAnd (iUshr (v0 - (iAnd (iUshr v0 1) 1431655765)) 2) 858993459)) 4)) 252645135) + (iUshr (iAnd (((iAnd (v0 - (iAnd (iUshr v0 1) 1431655765)) 858993459) + (iAnd (iUshr (v0 - (iAnd (iUshr v0 1) 1431655765)) 2) 858993459)) + (iUshr ((iAnd (v0 - (iAnd (iUshr v0 1) 1431655765)) 858993459) + (iAnd (iUshr (v0 - (iAnd (iUshr v0 1) 1431655765)) 2) 858993459)) 4)) 252645135) 8)) 16)))]) [0] dJ6_bitCount_0f7a4_47 rfl (by decide) rfl ?_
  refine a_iload_n (k := 0) dJ6_bitCount_0f7a4_48 rfl rfl ?_
  refine a_bipush dJ6_bitCount_0f7a4_49 (by decide) (by decide) ?_
  refine a_iand dJ6_bitCount_0f7a4_51 ?_
  exact a_iret dJ6_bitCount_0f7a4_52 rfl (Nat.le_of_ble_eq_true rfl) (Nat.le_of_ble_eq_true rfl) h
