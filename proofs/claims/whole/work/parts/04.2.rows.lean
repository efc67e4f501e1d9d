theorem dX9_comes_163 : decode cX9_comes 163 = .ok (.sipush 1270, 3) := by decide +kernel
theorem dX9_comes_166 : decode cX9_comes 166 = .ok (.iload 7, 2) := by decide +kernel
theorem dX9_comes_168 : decode cX9_comes 168 = .ok (.iconst 2, 1) := by decide +kernel
theorem dX9_comes_169 : decode cX9_comes 169 = .ok (.iadd, 1) := by decide +kernel
theorem dX9_comes_170 : decode cX9_comes 170 = .ok (.invokevirtual 51, 3) := by decide +kernel
theorem dX9_comes_173 : decode cX9_comes 173 = .ok (.iload 6, 2) := by decide +kernel
theorem dX9_comes_175 : decode cX9_comes 175 = .ok (.ireturn, 1) := by decide +kernel
theorem dX9_valueOf_0 : decode cX9_valueOf 0 = .ok (.iload_n 0, 1) := by decide +kernel
theorem dX9_valueOf_1 : decode cX9_valueOf 1 = .ok (.i2f, 1) := by decide +kernel
theorem dX9_valueOf_2 : decode cX9_valueOf 2 = .ok (.iload_n 1, 1) := by decide +kernel
theorem dX9_valueOf_3 : decode cX9_valueOf 3 = .ok (.i2f, 1) := by decide +kernel
theorem dX9_valueOf_4 : decode cX9_valueOf 4 = .ok (.fdiv, 1) := by decide +kernel
theorem dX9_valueOf_5 : decode cX9_valueOf 5 = .ok (.invokestatic 83, 3) := by decide +kernel
theorem dX9_valueOf_8 : decode cX9_valueOf 8 = .ok (.ireturn, 1) := by decide +kernel
theorem dX9_noRecord_0 : decode cX9_noRecord 0 = .ok (.iload_n 1, 1) := by decide +kernel
theorem dX9_noRecord_1 : decode cX9_noRecord 1 = .ok (.invokestatic 89, 3) := by decide +kernel
theorem dX9_noRecord_4 : decode cX9_noRecord 4 = .ok (.ifCond .eq 13, 3) := by decide +kernel
theorem dX9_noRecord_7 : decode cX9_noRecord 7 = .ok (.iload_n 2, 1) := by decide +kernel
theorem dX9_noRecord_8 : decode cX9_noRecord 8 = .ok (.iconst 0, 1) := by decide +kernel
theorem dX9_noRecord_9 : decode cX9_noRecord 9 = .ok (.bipush 25, 2) := by decide +kernel
theorem dX9_noRecord_11 : decode cX9_noRecord 11 = .ok (.invokestatic 55, 3) := by decide +kernel
theorem dX9_noRecord_14 : decode cX9_noRecord 14 = .ok (.ifCond .ne 5, 3) := by decide +kernel
theorem dX9_noRecord_17 : decode cX9_noRecord 17 = .ok (.iconst (-1), 1) := by decide +kernel
theorem dX9_noRecord_18 : decode cX9_noRecord 18 = .ok (.ireturn, 1) := by decide +kernel
theorem dX9_noRecord_19 : decode cX9_noRecord 19 = .ok (.iload_n 3, 1) := by decide +kernel
theorem dX9_noRecord_20 : decode cX9_noRecord 20 = .ok (.iconst 1, 1) := by decide +kernel
theorem dX9_noRecord_21 : decode cX9_noRecord 21 = .ok (.bipush 9, 2) := by decide +kernel
theorem dX9_noRecord_23 : decode cX9_noRecord 23 = .ok (.invokestatic 55, 3) := by decide +kernel
theorem dX9_noRecord_26 : decode cX9_noRecord 26 = .ok (.ifCond .ne 8, 3) := by decide +kernel
theorem dX9_noRecord_29 : decode cX9_noRecord 29 = .ok (.bipush (-2), 2) := by decide +kernel
theorem dX9_noRecord_31 : decode cX9_noRecord 31 = .ok (.goto 23, 3) := by decide +kernel
theorem dX9_noRecord_34 : decode cX9_noRecord 34 = .ok (.aload_n 0, 1) := by decide +kernel
theorem dX9_noRecord_35 : decode cX9_noRecord 35 = .ok (.iload_n 1, 1) := by decide +kernel
theorem dX9_noRecord_36 : decode cX9_noRecord 36 = .ok (.sipush 1271, 3) := by decide +kernel
theorem dX9_noRecord_39 : decode cX9_noRecord 39 = .ok (.invokevirtual 59, 3) := by decide +kernel
theorem dX9_noRecord_42 : decode cX9_noRecord 42 = .ok (.sipush 200, 3) := by decide +kernel
theorem dX9_noRecord_45 : decode cX9_noRecord 45 = .ok (.if_icmp .ne 8, 3) := by decide +kernel
theorem dX9_noRecord_48 : decode cX9_noRecord 48 = .ok (.bipush (-4), 2) := by decide +kernel
theorem dX9_noRecord_50 : decode cX9_noRecord 50 = .ok (.goto 4, 3) := by decide +kernel
theorem dX9_noRecord_53 : decode cX9_noRecord 53 = .ok (.iconst 0, 1) := by decide +kernel
theorem dX9_noRecord_54 : decode cX9_noRecord 54 = .ok (.ireturn, 1) := by decide +kernel
theorem dX9_put_0 : decode cX9_put 0 = .ok (.aload_n 0, 1) := by decide +kernel
theorem dX9_put_1 : decode cX9_put 1 = .ok (.iload_n 1, 1) := by decide +kernel
theorem dX9_put_2 : decode cX9_put 2 = .ok (.iload_n 2, 1) := by decide +kernel
theorem dX9_put_3 : decode cX9_put 3 = .ok (.iload 5, 2) := by decide +kernel
theorem dX9_put_5 : decode cX9_put 5 = .ok (.invokevirtual 93, 3) := by decide +kernel
theorem dX9_put_8 : decode cX9_put 8 = .ok (.istore 6, 2) := by decide +kernel
theorem dX9_put_10 : decode cX9_put 10 = .ok (.iload 6, 2) := by decide +kernel
theorem dX9_put_12 : decode cX9_put 12 = .ok (.ifCond .eq 8, 3) := by decide +kernel
theorem dX9_put_15 : decode cX9_put 15 = .ok (.iload 6, 2) := by decide +kernel
theorem dX9_put_17 : decode cX9_put 17 = .ok (.goto 18, 3) := by decide +kernel
theorem dX9_put_20 : decode cX9_put 20 = .ok (.aload_n 0, 1) := by decide +kernel
theorem dX9_put_21 : decode cX9_put 21 = .ok (.iload_n 1, 1) := by decide +kernel
theorem dX9_put_22 : decode cX9_put 22 = .ok (.iload_n 2, 1) := by decide +kernel
theorem dX9_put_23 : decode cX9_put 23 = .ok (.iload_n 3, 1) := by decide +kernel
theorem dX9_put_24 : decode cX9_put 24 = .ok (.iload 4, 2) := by decide +kernel
theorem dX9_put_26 : decode cX9_put 26 = .ok (.invokestatic 96, 3) := by decide +kernel
theorem dX9_put_29 : decode cX9_put 29 = .ok (.iconst 0, 1) := by decide +kernel
theorem dX9_put_30 : decode cX9_put 30 = .ok (.iload 5, 2) := by decide +kernel
theorem dX9_put_32 : decode cX9_put 32 = .ok (.invokevirtual 99, 3) := by decide +kernel
theorem dX9_put_35 : decode cX9_put 35 = .ok (.ireturn, 1) := by decide +kernel
theorem dX9_tomb_0 : decode cX9_tomb 0 = .ok (.aload_n 0, 1) := by decide +kernel
theorem dX9_tomb_1 : decode cX9_tomb 1 = .ok (.iload_n 1, 1) := by decide +kernel
theorem dX9_tomb_2 : decode cX9_tomb 2 = .ok (.iload_n 2, 1) := by decide +kernel
theorem dX9_tomb_3 : decode cX9_tomb 3 = .ok (.iload_n 3, 1) := by decide +kernel
theorem dX9_tomb_4 : decode cX9_tomb 4 = .ok (.invokevirtual 93, 3) := by decide +kernel
theorem dX9_tomb_7 : decode cX9_tomb 7 = .ok (.istore 4, 2) := by decide +kernel
theorem dX9_tomb_9 : decode cX9_tomb 9 = .ok (.iload 4, 2) := by decide +kernel
theorem dX9_tomb_11 : decode cX9_tomb 11 = .ok (.ifCond .eq 8, 3) := by decide +kernel
theorem dX9_tomb_14 : decode cX9_tomb 14 = .ok (.iload 4, 2) := by decide +kernel
theorem dX9_tomb_16 : decode cX9_tomb 16 = .ok (.goto 12, 3) := by decide +kernel
theorem dX9_tomb_19 : decode cX9_tomb 19 = .ok (.aload_n 0, 1) := by decide +kernel
theorem dX9_tomb_20 : decode cX9_tomb 20 = .ok (.iload_n 1, 1) := by decide +kernel
theorem dX9_tomb_21 : decode cX9_tomb 21 = .ok (.iload_n 2, 1) := by decide +kernel
theorem dX9_tomb_22 : decode cX9_tomb 22 = .ok (.iconst 0, 1) := by decide +kernel
theorem dX9_tomb_23 : decode cX9_tomb 23 = .ok (.iconst 1, 1) := by decide +kernel
theorem dX9_tomb_24 : decode cX9_tomb 24 = .ok (.iload_n 3, 1) := by decide +kernel
theorem dX9_tomb_25 : decode cX9_tomb 25 = .ok (.invokevirtual 99, 3) := by decide +kernel
theorem dX9_tomb_28 : decode cX9_tomb 28 = .ok (.ireturn, 1) := by decide +kernel
theorem dX9_tick_0 : decode cX9_tick 0 = .ok (.iload_n 1, 1) := by decide +kernel
theorem dX9_tick_1 : decode cX9_tick 1 = .ok (.iconst 0, 1) := by decide +kernel
theorem dX9_tick_2 : decode cX9_tick 2 = .ok (.bipush 99, 2) := by decide +kernel
theorem dX9_tick_4 : decode cX9_tick 4 = .ok (.invokestatic 55, 3) := by decide +kernel
theorem dX9_tick_7 : decode cX9_tick 7 = .ok (.ifCond .ne 6, 3) := by decide +kernel
theorem dX9_tick_10 : decode cX9_tick 10 = .ok (.bipush (-2), 2) := by decide +kernel
theorem dX9_tick_12 : decode cX9_tick 12 = .ok (.ireturn, 1) := by decide +kernel
theorem dX9_tick_13 : decode cX9_tick 13 = .ok (.aload_n 0, 1) := by decide +kernel
theorem dX9_tick_14 : decode cX9_tick 14 = .ok (.getfield 11, 3) := by decide +kernel
theorem dX9_tick_17 : decode cX9_tick 17 = .ok (.sipush 5096, 3) := by decide +kernel
theorem dX9_tick_20 : decode cX9_tick 20 = .ok (.iaload, 1) := by decide +kernel
theorem dX9_tick_21 : decode cX9_tick 21 = .ok (.iload_n 1, 1) := by decide +kernel
theorem dX9_tick_22 : decode cX9_tick 22 = .ok (.iadd, 1) := by decide +kernel
theorem dX9_tick_23 : decode cX9_tick 23 = .ok (.sipush 9999, 3) := by decide +kernel
theorem dX9_tick_26 : decode cX9_tick 26 = .ok (.if_icmp .le 6, 3) := by decide +kernel
theorem dX9_tick_29 : decode cX9_tick 29 = .ok (.bipush (-3), 2) := by decide +kernel
theorem dX9_tick_31 : decode cX9_tick 31 = .ok (.ireturn, 1) := by decide +kernel
theorem dX9_tick_32 : decode cX9_tick 32 = .ok (.aload_n 0, 1) := by decide +kernel
theorem dX9_tick_33 : decode cX9_tick 33 = .ok (.getfield 11, 3) := by decide +kernel
theorem dX9_tick_36 : decode cX9_tick 36 = .ok (.sipush 5096, 3) := by decide +kernel
theorem dX9_tick_39 : decode cX9_tick 39 = .ok (.dup2, 1) := by decide +kernel
theorem dX9_tick_40 : decode cX9_tick 40 = .ok (.iaload, 1) := by decide +kernel
theorem dX9_tick_41 : decode cX9_tick 41 = .ok (.iload_n 1, 1) := by decide +kernel
theorem dX9_tick_42 : decode cX9_tick 42 = .ok (.iadd, 1) := by decide +kernel
theorem dX9_tick_43 : decode cX9_tick 43 = .ok (.iastore, 1) := by decide +kernel
theorem dX9_tick_44 : decode cX9_tick 44 = .ok (.aload_n 0, 1) := by decide +kernel
theorem dX9_tick_45 : decode cX9_tick 45 = .ok (.getfield 11, 3) := by decide +kernel
theorem dX9_tick_48 : decode cX9_tick 48 = .ok (.sipush 5096, 3) := by decide +kernel
theorem dX9_tick_51 : decode cX9_tick 51 = .ok (.iaload, 1) := by decide +kernel
theorem dX9_tick_52 : decode cX9_tick 52 = .ok (.ireturn, 1) := by decide +kernel
theorem dX9_set_0 : decode cX9_set 0 = .ok (.iload_n 1, 1) := by decide +kernel
theorem dX9_set_1 : decode cX9_set 1 = .ok (.iconst 0, 1) := by decide +kernel
theorem dX9_set_2 : decode cX9_set 2 = .ok (.iconst 2, 1) := by decide +kernel
theorem dX9_set_3 : decode cX9_set 3 = .ok (.invokestatic 55, 3) := by decide +kernel
theorem dX9_set_6 : decode cX9_set 6 = .ok (.ifCond .ne 5, 3) := by decide +kernel
theorem dX9_set_9 : decode cX9_set 9 = .ok (.iconst (-1), 1) := by decide +kernel
theorem dX9_set_10 : decode cX9_set 10 = .ok (.ireturn, 1) := by decide +kernel
theorem dX9_set_11 : decode cX9_set 11 = .ok (.iload_n 2, 1) := by decide +kernel
theorem dX9_set_12 : decode cX9_set 12 = .ok (.iconst 0, 1) := by decide +kernel
theorem dX9_set_13 : decode cX9_set 13 = .ok (.iload_n 1, 1) := by decide +kernel
theorem dX9_set_14 : decode cX9_set 14 = .ok (.ifCond .ne 8, 3) := by decide +kernel
theorem dX9_set_17 : decode cX9_set 17 = .ok (.bipush 99, 2) := by decide +kernel
theorem dX9_set_19 : decode cX9_set 19 = .ok (.goto 6, 3) := by decide +kernel
theorem dX9_set_22 : decode cX9_set 22 = .ok (.sipush 999, 3) := by decide +kernel
theorem dX9_set_25 : decode cX9_set 25 = .ok (.invokestatic 55, 3) := by decide +kernel
theorem dX9_set_28 : decode cX9_set 28 = .ok (.ifCond .ne 6, 3) := by decide +kernel
theorem dX9_set_31 : decode cX9_set 31 = .ok (.bipush (-2), 2) := by decide +kernel
theorem dX9_set_33 : decode cX9_set 33 = .ok (.ireturn, 1) := by decide +kernel
theorem dX9_set_34 : decode cX9_set 34 = .ok (.aload_n 0, 1) := by decide +kernel
theorem dX9_set_35 : decode cX9_set 35 = .ok (.getfield 11, 3) := by decide +kernel
theorem dX9_set_38 : decode cX9_set 38 = .ok (.sipush 5097, 3) := by decide +kernel
theorem dX9_set_41 : decode cX9_set 41 = .ok (.iload_n 1, 1) := by decide +kernel
theorem dX9_set_42 : decode cX9_set 42 = .ok (.iadd, 1) := by decide +kernel
theorem dX9_set_43 : decode cX9_set 43 = .ok (.iaload, 1) := by decide +kernel
theorem dX9_set_44 : decode cX9_set 44 = .ok (.istore_n 3, 1) := by decide +kernel
theorem dX9_set_45 : decode cX9_set 45 = .ok (.aload_n 0, 1) := by decide +kernel
theorem dX9_set_46 : decode cX9_set 46 = .ok (.getfield 11, 3) := by decide +kernel
theorem dX9_set_49 : decode cX9_set 49 = .ok (.sipush 5097, 3) := by decide +kernel
theorem dX9_set_52 : decode cX9_set 52 = .ok (.iload_n 1, 1) := by decide +kernel
theorem dX9_set_53 : decode cX9_set 53 = .ok (.iadd, 1) := by decide +kernel
theorem dX9_set_54 : decode cX9_set 54 = .ok (.iload_n 2, 1) := by decide +kernel
theorem dX9_set_55 : decode cX9_set 55 = .ok (.iastore, 1) := by decide +kernel
theorem dX9_set_56 : decode cX9_set 56 = .ok (.iload_n 3, 1) := by decide +kernel
theorem dX9_set_57 : decode cX9_set 57 = .ok (.ireturn, 1) := by decide +kernel
theorem dX9_hasLater_0 : decode cX9_hasLater 0 = .ok (.iload_n 2, 1) := by decide +kernel
theorem dX9_hasLater_1 : decode cX9_hasLater 1 = .ok (.iconst 1, 1) := by decide +kernel
theorem dX9_hasLater_2 : decode cX9_hasLater 2 = .ok (.iadd, 1) := by decide +kernel
theorem dX9_hasLater_3 : decode cX9_hasLater 3 = .ok (.istore_n 3, 1) := by decide +kernel
theorem dX9_hasLater_4 : decode cX9_hasLater 4 = .ok (.iload_n 3, 1) := by decide +kernel
theorem dX9_hasLater_5 : decode cX9_hasLater 5 = .ok (.aload_n 0, 1) := by decide +kernel
theorem dX9_hasLater_6 : decode cX9_hasLater 6 = .ok (.iload_n 1, 1) := by decide +kernel
theorem dX9_hasLater_7 : decode cX9_hasLater 7 = .ok (.sipush 1271, 3) := by decide +kernel
theorem dX9_hasLater_10 : decode cX9_hasLater 10 = .ok (.invokevirtual 59, 3) := by decide +kernel
theorem dX9_hasLater_13 : decode cX9_hasLater 13 = .ok (.if_icmp .ge 46, 3) := by decide +kernel
theorem dX9_hasLater_16 : decode cX9_hasLater 16 = .ok (.aload_n 0, 1) := by decide +kernel
theorem dX9_hasLater_17 : decode cX9_hasLater 17 = .ok (.iload_n 1, 1) := by decide +kernel
theorem dX9_hasLater_18 : decode cX9_hasLater 18 = .ok (.iconst 0, 1) := by decide +kernel
theorem dX9_hasLater_19 : decode cX9_hasLater 19 = .ok (.iload_n 3, 1) := by decide +kernel
theorem dX9_hasLater_20 : decode cX9_hasLater 20 = .ok (.iadd, 1) := by decide +kernel
theorem dX9_hasLater_21 : decode cX9_hasLater 21 = .ok (.invokevirtual 59, 3) := by decide +kernel
theorem dX9_hasLater_24 : decode cX9_hasLater 24 = .ok (.iconst 1, 1) := by decide +kernel
theorem dX9_hasLater_25 : decode cX9_hasLater 25 = .ok (.if_icmp .ne 28, 3) := by decide +kernel
theorem dX9_hasLater_28 : decode cX9_hasLater 28 = .ok (.aload_n 0, 1) := by decide +kernel
theorem dX9_hasLater_29 : decode cX9_hasLater 29 = .ok (.iload_n 1, 1) := by decide +kernel
theorem dX9_hasLater_30 : decode cX9_hasLater 30 = .ok (.sipush 200, 3) := by decide +kernel
theorem dX9_hasLater_33 : decode cX9_hasLater 33 = .ok (.iload_n 3, 1) := by decide +kernel
theorem dX9_hasLater_34 : decode cX9_hasLater 34 = .ok (.iadd, 1) := by decide +kernel
theorem dX9_hasLater_35 : decode cX9_hasLater 35 = .ok (.invokevirtual 59, 3) := by decide +kernel
theorem dX9_hasLater_38 : decode cX9_hasLater 38 = .ok (.aload_n 0, 1) := by decide +kernel
theorem dX9_hasLater_39 : decode cX9_hasLater 39 = .ok (.iload_n 1, 1) := by decide +kernel
theorem dX9_hasLater_40 : decode cX9_hasLater 40 = .ok (.sipush 200, 3) := by decide +kernel
theorem dX9_hasLater_43 : decode cX9_hasLater 43 = .ok (.iload_n 2, 1) := by decide +kernel
theorem dX9_hasLater_44 : decode cX9_hasLater 44 = .ok (.iadd, 1) := by decide +kernel
theorem dX9_hasLater_45 : decode cX9_hasLater 45 = .ok (.invokevirtual 59, 3) := by decide +kernel
theorem dX9_hasLater_48 : decode cX9_hasLater 48 = .ok (.if_icmp .ne 5, 3) := by decide +kernel
theorem dX9_hasLater_51 : decode cX9_hasLater 51 = .ok (.iconst 1, 1) := by decide +kernel
theorem dX9_hasLater_52 : decode cX9_hasLater 52 = .ok (.ireturn, 1) := by decide +kernel
theorem dX9_hasLater_53 : decode cX9_hasLater 53 = .ok (.iinc 3 1, 3) := by decide +kernel
theorem dX9_hasLater_56 : decode cX9_hasLater 56 = .ok (.goto (-52), 3) := by decide +kernel
theorem dX9_hasLater_59 : decode cX9_hasLater 59 = .ok (.iconst 0, 1) := by decide +kernel
theorem dX9_hasLater_60 : decode cX9_hasLater 60 = .ok (.ireturn, 1) := by decide +kernel
theorem dX9_compacted_0 : decode cX9_compacted 0 = .ok (.aload_n 0, 1) := by decide +kernel
theorem dX9_compacted_1 : decode cX9_compacted 1 = .ok (.iload_n 1, 1) := by decide +kernel
theorem dX9_compacted_2 : decode cX9_compacted 2 = .ok (.aload_n 0, 1) := by decide +kernel
theorem dX9_compacted_3 : decode cX9_compacted 3 = .ok (.iload_n 1, 1) := by decide +kernel
theorem dX9_compacted_4 : decode cX9_compacted 4 = .ok (.sipush 1270, 3) := by decide +kernel
theorem dX9_compacted_7 : decode cX9_compacted 7 = .ok (.invokevirtual 59, 3) := by decide +kernel
theorem dX9_compacted_10 : decode cX9_compacted 10 = .ok (.iconst 1, 1) := by decide +kernel
theorem dX9_compacted_11 : decode cX9_compacted 11 = .ok (.isub, 1) := by decide +kernel
theorem dX9_compacted_12 : decode cX9_compacted 12 = .ok (.invokevirtual 63, 3) := by decide +kernel
theorem dX9_compacted_15 : decode cX9_compacted 15 = .ok (.istore_n 2, 1) := by decide +kernel
theorem dX9_compacted_16 : decode cX9_compacted 16 = .ok (.iconst 0, 1) := by decide +kernel
theorem dX9_compacted_17 : decode cX9_compacted 17 = .ok (.istore_n 3, 1) := by decide +kernel
theorem dX9_compacted_18 : decode cX9_compacted 18 = .ok (.iconst 0, 1) := by decide +kernel
theorem dX9_compacted_19 : decode cX9_compacted 19 = .ok (.istore 4, 2) := by decide +kernel
theorem dX9_compacted_21 : decode cX9_compacted 21 = .ok (.iload 4, 2) := by decide +kernel
theorem dX9_compacted_23 : decode cX9_compacted 23 = .ok (.iload_n 2, 1) := by decide +kernel
theorem dX9_compacted_24 : decode cX9_compacted 24 = .ok (.if_icmp .ge 103, 3) := by decide +kernel
theorem dX9_compacted_27 : decode cX9_compacted 27 = .ok (.aload_n 0, 1) := by decide +kernel
theorem dX9_compacted_28 : decode cX9_compacted 28 = .ok (.iload_n 1, 1) := by decide +kernel
theorem dX9_compacted_29 : decode cX9_compacted 29 = .ok (.iconst 0, 1) := by decide +kernel
theorem dX9_compacted_30 : decode cX9_compacted 30 = .ok (.iload 4, 2) := by decide +kernel
theorem dX9_compacted_32 : decode cX9_compacted 32 = .ok (.iadd, 1) := by decide +kernel
theorem dX9_compacted_33 : decode cX9_compacted 33 = .ok (.invokevirtual 59, 3) := by decide +kernel
theorem dX9_compacted_36 : decode cX9_compacted 36 = .ok (.iconst 1, 1) := by decide +kernel
theorem dX9_compacted_37 : decode cX9_compacted 37 = .ok (.if_icmp .ne 84, 3) := by decide +kernel
theorem dX9_compacted_40 : decode cX9_compacted 40 = .ok (.aload_n 0, 1) := by decide +kernel
theorem dX9_compacted_41 : decode cX9_compacted 41 = .ok (.iload_n 1, 1) := by decide +kernel
theorem dX9_compacted_42 : decode cX9_compacted 42 = .ok (.sipush 800, 3) := by decide +kernel
theorem dX9_compacted_45 : decode cX9_compacted 45 = .ok (.iload 4, 2) := by decide +kernel
theorem dX9_compacted_47 : decode cX9_compacted 47 = .ok (.iadd, 1) := by decide +kernel
theorem dX9_compacted_48 : decode cX9_compacted 48 = .ok (.invokevirtual 59, 3) := by decide +kernel
theorem dX9_compacted_51 : decode cX9_compacted 51 = .ok (.iconst 1, 1) := by decide +kernel
theorem dX9_compacted_52 : decode cX9_compacted 52 = .ok (.if_icmp .ne 38, 3) := by decide +kernel
theorem dX9_compacted_55 : decode cX9_compacted 55 = .ok (.aload_n 0, 1) := by decide +kernel
theorem dX9_compacted_56 : decode cX9_compacted 56 = .ok (.getfield 11, 3) := by decide +kernel
theorem dX9_compacted_59 : decode cX9_compacted 59 = .ok (.sipush 5096, 3) := by decide +kernel
theorem dX9_compacted_62 : decode cX9_compacted 62 = .ok (.iaload, 1) := by decide +kernel
theorem dX9_compacted_63 : decode cX9_compacted 63 = .ok (.aload_n 0, 1) := by decide +kernel
theorem dX9_compacted_64 : decode cX9_compacted 64 = .ok (.iload_n 1, 1) := by decide +kernel
theorem dX9_compacted_65 : decode cX9_compacted 65 = .ok (.sipush 400, 3) := by decide +kernel
theorem dX9_compacted_68 : decode cX9_compacted 68 = .ok (.iload 4, 2) := by decide +kernel
theorem dX9_compacted_70 : decode cX9_compacted 70 = .ok (.iadd, 1) := by decide +kernel
theorem dX9_compacted_71 : decode cX9_compacted 71 = .ok (.invokevirtual 59, 3) := by decide +kernel
theorem dX9_compacted_74 : decode cX9_compacted 74 = .ok (.isub, 1) := by decide +kernel
theorem dX9_compacted_75 : decode cX9_compacted 75 = .ok (.aload_n 0, 1) := by decide +kernel
theorem dX9_compacted_76 : decode cX9_compacted 76 = .ok (.getfield 11, 3) := by decide +kernel
theorem dX9_compacted_79 : decode cX9_compacted 79 = .ok (.sipush 5097, 3) := by decide +kernel
theorem dX9_compacted_82 : decode cX9_compacted 82 = .ok (.iaload, 1) := by decide +kernel
theorem dX9_compacted_83 : decode cX9_compacted 83 = .ok (.if_icmp .lt 7, 3) := by decide +kernel
theorem dX9_compacted_86 : decode cX9_compacted 86 = .ok (.iconst 1, 1) := by decide +kernel
theorem dX9_compacted_87 : decode cX9_compacted 87 = .ok (.goto 4, 3) := by decide +kernel
theorem dX9_compacted_90 : decode cX9_compacted 90 = .ok (.iconst 0, 1) := by decide +kernel
theorem dX9_compacted_91 : decode cX9_compacted 91 = .ok (.istore 5, 2) := by decide +kernel
theorem dX9_compacted_93 : decode cX9_compacted 93 = .ok (.aload_n 0, 1) := by decide +kernel
theorem dX9_compacted_94 : decode cX9_compacted 94 = .ok (.iload_n 1, 1) := by decide +kernel
theorem dX9_compacted_95 : decode cX9_compacted 95 = .ok (.iload 4, 2) := by decide +kernel
theorem dX9_compacted_97 : decode cX9_compacted 97 = .ok (.invokevirtual 103, 3) := by decide +kernel
theorem dX9_compacted_100 : decode cX9_compacted 100 = .ok (.ifCond .ne 8, 3) := by decide +kernel
theorem dX9_compacted_103 : decode cX9_compacted 103 = .ok (.iload 5, 2) := by decide +kernel
theorem dX9_compacted_105 : decode cX9_compacted 105 = .ok (.ifCond .eq 16, 3) := by decide +kernel
theorem dX9_compacted_108 : decode cX9_compacted 108 = .ok (.aload_n 0, 1) := by decide +kernel
theorem dX9_compacted_109 : decode cX9_compacted 109 = .ok (.iload_n 1, 1) := by decide +kernel
theorem dX9_compacted_110 : decode cX9_compacted 110 = .ok (.iconst 0, 1) := by decide +kernel
theorem dX9_compacted_111 : decode cX9_compacted 111 = .ok (.iload 4, 2) := by decide +kernel
theorem dX9_compacted_113 : decode cX9_compacted 113 = .ok (.iadd, 1) := by decide +kernel
theorem dX9_compacted_114 : decode cX9_compacted 114 = .ok (.iconst 0, 1) := by decide +kernel
theorem dX9_compacted_115 : decode cX9_compacted 115 = .ok (.invokevirtual 51, 3) := by decide +kernel
theorem dX9_compacted_118 : decode cX9_compacted 118 = .ok (.iinc 3 1, 3) := by decide +kernel
theorem dX9_compacted_121 : decode cX9_compacted 121 = .ok (.iinc 4 1, 3) := by decide +kernel
theorem dX9_compacted_124 : decode cX9_compacted 124 = .ok (.goto (-103), 3) := by decide +kernel
theorem dX9_compacted_127 : decode cX9_compacted 127 = .ok (.iconst 0, 1) := by decide +kernel
theorem dX9_compacted_128 : decode cX9_compacted 128 = .ok (.istore 4, 2) := by decide +kernel
theorem dX9_compacted_130 : decode cX9_compacted 130 = .ok (.iload 4, 2) := by decide +kernel
theorem dX9_compacted_132 : decode cX9_compacted 132 = .ok (.iconst 2, 1) := by decide +kernel
theorem dX9_compacted_133 : decode cX9_compacted 133 = .ok (.iadd, 1) := by decide +kernel
theorem dX9_compacted_134 : decode cX9_compacted 134 = .ok (.aload_n 0, 1) := by decide +kernel
theorem dX9_compacted_135 : decode cX9_compacted 135 = .ok (.iload_n 1, 1) := by decide +kernel
theorem dX9_compacted_136 : decode cX9_compacted 136 = .ok (.sipush 1270, 3) := by decide +kernel
theorem dX9_compacted_139 : decode cX9_compacted 139 = .ok (.invokevirtual 59, 3) := by decide +kernel
theorem dX9_compacted_142 : decode cX9_compacted 142 = .ok (.if_icmp .ge 65, 3) := by decide +kernel
theorem dX9_compacted_145 : decode cX9_compacted 145 = .ok (.aload_n 0, 1) := by decide +kernel
theorem dX9_compacted_146 : decode cX9_compacted 146 = .ok (.iload_n 1, 1) := by decide +kernel
theorem dX9_compacted_147 : decode cX9_compacted 147 = .ok (.iload 4, 2) := by decide +kernel
theorem dX9_compacted_149 : decode cX9_compacted 149 = .ok (.invokevirtual 80, 3) := by decide +kernel
theorem dX9_compacted_152 : decode cX9_compacted 152 = .ok (.aload_n 0, 1) := by decide +kernel
theorem dX9_compacted_153 : decode cX9_compacted 153 = .ok (.iload_n 1, 1) := by decide +kernel
theorem dX9_compacted_154 : decode cX9_compacted 154 = .ok (.iload 4, 2) := by decide +kernel
theorem dX9_compacted_156 : decode cX9_compacted 156 = .ok (.iconst 1, 1) := by decide +kernel
theorem dX9_compacted_157 : decode cX9_compacted 157 = .ok (.iadd, 1) := by decide +kernel
theorem dX9_compacted_158 : decode cX9_compacted 158 = .ok (.invokevirtual 80, 3) := by decide +kernel
theorem dX9_compacted_161 : decode cX9_compacted 161 = .ok (.iadd, 1) := by decide +kernel
theorem dX9_compacted_162 : decode cX9_compacted 162 = .ok (.bipush 20, 2) := by decide +kernel
theorem dX9_compacted_164 : decode cX9_compacted 164 = .ok (.if_icmp .gt 37, 3) := by decide +kernel
theorem dX9_compacted_167 : decode cX9_compacted 167 = .ok (.aload_n 0, 1) := by decide +kernel
theorem dX9_compacted_168 : decode cX9_compacted 168 = .ok (.iload_n 1, 1) := by decide +kernel
theorem dX9_compacted_169 : decode cX9_compacted 169 = .ok (.iload 4, 2) := by decide +kernel
theorem dX9_compacted_171 : decode cX9_compacted 171 = .ok (.invokevirtual 77, 3) := by decide +kernel
theorem dX9_compacted_174 : decode cX9_compacted 174 = .ok (.aload_n 0, 1) := by decide +kernel
theorem dX9_compacted_175 : decode cX9_compacted 175 = .ok (.iload_n 1, 1) := by decide +kernel
theorem dX9_compacted_176 : decode cX9_compacted 176 = .ok (.iload 4, 2) := by decide +kernel
theorem dX9_compacted_178 : decode cX9_compacted 178 = .ok (.iconst 1, 1) := by decide +kernel
theorem dX9_compacted_179 : decode cX9_compacted 179 = .ok (.iadd, 1) := by decide +kernel
theorem dX9_compacted_180 : decode cX9_compacted 180 = .ok (.invokevirtual 77, 3) := by decide +kernel
theorem dX9_compacted_183 : decode cX9_compacted 183 = .ok (.iadd, 1) := by decide +kernel
theorem dX9_compacted_184 : decode cX9_compacted 184 = .ok (.bipush 8, 2) := by decide +kernel
theorem dX9_compacted_186 : decode cX9_compacted 186 = .ok (.if_icmp .gt 15, 3) := by decide +kernel
theorem dX9_compacted_189 : decode cX9_compacted 189 = .ok (.aload_n 0, 1) := by decide +kernel
theorem dX9_compacted_190 : decode cX9_compacted 190 = .ok (.iload_n 1, 1) := by decide +kernel
theorem dX9_compacted_191 : decode cX9_compacted 191 = .ok (.iload 4, 2) := by decide +kernel
theorem dX9_compacted_193 : decode cX9_compacted 193 = .ok (.iconst 1, 1) := by decide +kernel
theorem dX9_compacted_194 : decode cX9_compacted 194 = .ok (.iadd, 1) := by decide +kernel
theorem dX9_compacted_195 : decode cX9_compacted 195 = .ok (.invokevirtual 107, 3) := by decide +kernel
theorem dX9_compacted_198 : decode cX9_compacted 198 = .ok (.goto (-68), 3) := by decide +kernel
theorem dX9_compacted_201 : decode cX9_compacted 201 = .ok (.iinc 4 1, 3) := by decide +kernel
theorem dX9_compacted_204 : decode cX9_compacted 204 = .ok (.goto (-74), 3) := by decide +kernel
theorem dX9_compacted_207 : decode cX9_compacted 207 = .ok (.iload_n 3, 1) := by decide +kernel
theorem dX9_compacted_208 : decode cX9_compacted 208 = .ok (.ireturn, 1) := by decide +kernel
theorem dX9_isOld_0 : decode cX9_isOld 0 = .ok (.ldc 113, 2) := by decide +kernel
theorem dX9_isOld_2 : decode cX9_isOld 2 = .ok (.istore_n 2, 1) := by decide +kernel
theorem dX9_isOld_3 : decode cX9_isOld 3 = .ok (.aload_n 0, 1) := by decide +kernel
theorem dX9_isOld_4 : decode cX9_isOld 4 = .ok (.iload_n 1, 1) := by decide +kernel
theorem dX9_isOld_5 : decode cX9_isOld 5 = .ok (.iconst 0, 1) := by decide +kernel
theorem dX9_isOld_6 : decode cX9_isOld 6 = .ok (.invokevirtual 63, 3) := by decide +kernel
theorem dX9_isOld_9 : decode cX9_isOld 9 = .ok (.istore_n 3, 1) := by decide +kernel
theorem dX9_isOld_10 : decode cX9_isOld 10 = .ok (.iload_n 3, 1) := by decide +kernel
theorem dX9_isOld_11 : decode cX9_isOld 11 = .ok (.aload_n 0, 1) := by decide +kernel
theorem dX9_isOld_12 : decode cX9_isOld 12 = .ok (.iload_n 1, 1) := by decide +kernel
theorem dX9_isOld_13 : decode cX9_isOld 13 = .ok (.iconst 0, 1) := by decide +kernel
theorem dX9_isOld_14 : decode cX9_isOld 14 = .ok (.invokevirtual 66, 3) := by decide +kernel
theorem dX9_isOld_17 : decode cX9_isOld 17 = .ok (.if_icmp .ge 50, 3) := by decide +kernel
theorem dX9_isOld_20 : decode cX9_isOld 20 = .ok (.aload_n 0, 1) := by decide +kernel
theorem dX9_isOld_21 : decode cX9_isOld 21 = .ok (.iload_n 1, 1) := by decide +kernel
theorem dX9_isOld_22 : decode cX9_isOld 22 = .ok (.iconst 0, 1) := by decide +kernel
theorem dX9_isOld_23 : decode cX9_isOld 23 = .ok (.iload_n 3, 1) := by decide +kernel
theorem dX9_isOld_24 : decode cX9_isOld 24 = .ok (.iadd, 1) := by decide +kernel
theorem dX9_isOld_25 : decode cX9_isOld 25 = .ok (.invokevirtual 59, 3) := by decide +kernel
theorem dX9_isOld_28 : decode cX9_isOld 28 = .ok (.iconst 1, 1) := by decide +kernel
theorem dX9_isOld_29 : decode cX9_isOld 29 = .ok (.if_icmp .ne 30, 3) := by decide +kernel
theorem dX9_isOld_32 : decode cX9_isOld 32 = .ok (.aload_n 0, 1) := by decide +kernel
theorem dX9_isOld_33 : decode cX9_isOld 33 = .ok (.iload_n 1, 1) := by decide +kernel
theorem dX9_isOld_34 : decode cX9_isOld 34 = .ok (.sipush 400, 3) := by decide +kernel
theorem dX9_isOld_37 : decode cX9_isOld 37 = .ok (.iload_n 3, 1) := by decide +kernel
theorem dX9_isOld_38 : decode cX9_isOld 38 = .ok (.iadd, 1) := by decide +kernel
theorem dX9_isOld_39 : decode cX9_isOld 39 = .ok (.invokevirtual 59, 3) := by decide +kernel
theorem dX9_isOld_42 : decode cX9_isOld 42 = .ok (.iload_n 2, 1) := by decide +kernel
theorem dX9_isOld_43 : decode cX9_isOld 43 = .ok (.if_icmp .le 16, 3) := by decide +kernel
theorem dX9_isOld_46 : decode cX9_isOld 46 = .ok (.aload_n 0, 1) := by decide +kernel
theorem dX9_isOld_47 : decode cX9_isOld 47 = .ok (.iload_n 1, 1) := by decide +kernel
theorem dX9_isOld_48 : decode cX9_isOld 48 = .ok (.sipush 400, 3) := by decide +kernel
theorem dX9_isOld_51 : decode cX9_isOld 51 = .ok (.iload_n 3, 1) := by decide +kernel
theorem dX9_isOld_52 : decode cX9_isOld 52 = .ok (.iadd, 1) := by decide +kernel
theorem dX9_isOld_53 : decode cX9_isOld 53 = .ok (.invokevirtual 59, 3) := by decide +kernel
theorem dX9_isOld_56 : decode cX9_isOld 56 = .ok (.goto 4, 3) := by decide +kernel
theorem dX9_isOld_59 : decode cX9_isOld 59 = .ok (.iload_n 2, 1) := by decide +kernel
theorem dX9_isOld_60 : decode cX9_isOld 60 = .ok (.istore_n 2, 1) := by decide +kernel
theorem dX9_isOld_61 : decode cX9_isOld 61 = .ok (.iinc 3 1, 3) := by decide +kernel
theorem dX9_isOld_64 : decode cX9_isOld 64 = .ok (.goto (-54), 3) := by decide +kernel
theorem dX9_isOld_67 : decode cX9_isOld 67 = .ok (.iload_n 2, 1) := by decide +kernel
theorem dX9_isOld_68 : decode cX9_isOld 68 = .ok (.aload_n 0, 1) := by decide +kernel
theorem dX9_isOld_69 : decode cX9_isOld 69 = .ok (.getfield 11, 3) := by decide +kernel
theorem dX9_isOld_72 : decode cX9_isOld 72 = .ok (.sipush 5096, 3) := by decide +kernel
theorem dX9_isOld_75 : decode cX9_isOld 75 = .ok (.iaload, 1) := by decide +kernel
theorem dX9_isOld_76 : decode cX9_isOld 76 = .ok (.aload_n 0, 1) := by decide +kernel
theorem dX9_isOld_77 : decode cX9_isOld 77 = .ok (.getfield 11, 3) := by decide +kernel
theorem dX9_isOld_80 : decode cX9_isOld 80 = .ok (.sipush 5099, 3) := by decide +kernel
theorem dX9_isOld_83 : decode cX9_isOld 83 = .ok (.iaload, 1) := by decide +kernel
theorem dX9_isOld_84 : decode cX9_isOld 84 = .ok (.isub, 1) := by decide +kernel
theorem dX9_isOld_85 : decode cX9_isOld 85 = .ok (.if_icmp .ge 7, 3) := by decide +kernel
theorem dX9_isOld_88 : decode cX9_isOld 88 = .ok (.iconst 1, 1) := by decide +kernel
theorem dX9_isOld_89 : decode cX9_isOld 89 = .ok (.goto 4, 3) := by decide +kernel
theorem dX9_isOld_92 : decode cX9_isOld 92 = .ok (.iconst 0, 1) := by decide +kernel
theorem dX9_isOld_93 : decode cX9_isOld 93 = .ok (.ireturn, 1) := by decide +kernel
theorem dX9_retained_0 : decode cX9_retained 0 = .ok (.iconst 0, 1) := by decide +kernel
theorem dX9_retained_1 : decode cX9_retained 1 = .ok (.istore_n 2, 1) := by decide +kernel
theorem dX9_retained_2 : decode cX9_retained 2 = .ok (.aload_n 0, 1) := by decide +kernel
theorem dX9_retained_3 : decode cX9_retained 3 = .ok (.iload_n 1, 1) := by decide +kernel
theorem dX9_retained_4 : decode cX9_retained 4 = .ok (.sipush 1270, 3) := by decide +kernel
theorem dX9_retained_7 : decode cX9_retained 7 = .ok (.invokevirtual 59, 3) := by decide +kernel
theorem dX9_retained_10 : decode cX9_retained 10 = .ok (.iconst 1, 1) := by decide +kernel
theorem dX9_retained_11 : decode cX9_retained 11 = .ok (.if_icmp .le 90, 3) := by decide +kernel
theorem dX9_retained_14 : decode cX9_retained 14 = .ok (.aload_n 0, 1) := by decide +kernel
theorem dX9_retained_15 : decode cX9_retained 15 = .ok (.iload_n 1, 1) := by decide +kernel
theorem dX9_retained_16 : decode cX9_retained 16 = .ok (.iconst 0, 1) := by decide +kernel
theorem dX9_retained_17 : decode cX9_retained 17 = .ok (.sipush 200, 3) := by decide +kernel
theorem dX9_retained_20 : decode cX9_retained 20 = .ok (.invokevirtual 69, 3) := by decide +kernel
theorem dX9_retained_23 : decode cX9_retained 23 = .ok (.aload_n 0, 1) := by decide +kernel
theorem dX9_retained_24 : decode cX9_retained 24 = .ok (.getfield 11, 3) := by decide +kernel
theorem dX9_retained_27 : decode cX9_retained 27 = .ok (.sipush 5098, 3) := by decide +kernel
theorem dX9_retained_30 : decode cX9_retained 30 = .ok (.iaload, 1) := by decide +kernel
theorem dX9_retained_31 : decode cX9_retained 31 = .ok (.if_icmp .gt 20, 3) := by decide +kernel
theorem dX9_retained_34 : decode cX9_retained 34 = .ok (.aload_n 0, 1) := by decide +kernel
theorem dX9_retained_35 : decode cX9_retained 35 = .ok (.iload_n 1, 1) := by decide +kernel
theorem dX9_retained_36 : decode cX9_retained 36 = .ok (.iconst 0, 1) := by decide +kernel
theorem dX9_retained_37 : decode cX9_retained 37 = .ok (.invokevirtual 77, 3) := by decide +kernel
theorem dX9_retained_40 : decode cX9_retained 40 = .ok (.ifCond .eq 11, 3) := by decide +kernel
theorem dX9_retained_43 : decode cX9_retained 43 = .ok (.aload_n 0, 1) := by decide +kernel
theorem dX9_retained_44 : decode cX9_retained 44 = .ok (.iload_n 1, 1) := by decide +kernel
theorem dX9_retained_45 : decode cX9_retained 45 = .ok (.invokevirtual 114, 3) := by decide +kernel
theorem dX9_retained_48 : decode cX9_retained 48 = .ok (.ifCond .eq 53, 3) := by decide +kernel
theorem dX9_retained_51 : decode cX9_retained 51 = .ok (.iload_n 2, 1) := by decide +kernel
theorem dX9_retained_52 : decode cX9_retained 52 = .ok (.aload_n 0, 1) := by decide +kernel
theorem dX9_retained_53 : decode cX9_retained 53 = .ok (.iload_n 1, 1) := by decide +kernel
theorem dX9_retained_54 : decode cX9_retained 54 = .ok (.iconst 0, 1) := by decide +kernel
theorem dX9_retained_55 : decode cX9_retained 55 = .ok (.invokevirtual 77, 3) := by decide +kernel
theorem dX9_retained_58 : decode cX9_retained 58 = .ok (.iadd, 1) := by decide +kernel
theorem dX9_retained_59 : decode cX9_retained 59 = .ok (.istore_n 2, 1) := by decide +kernel
theorem dX9_retained_60 : decode cX9_retained 60 = .ok (.aload_n 0, 1) := by decide +kernel
theorem dX9_retained_61 : decode cX9_retained 61 = .ok (.iload_n 1, 1) := by decide +kernel
theorem dX9_retained_62 : decode cX9_retained 62 = .ok (.iconst 0, 1) := by decide +kernel
theorem dX9_retained_63 : decode cX9_retained 63 = .ok (.invokevirtual 63, 3) := by decide +kernel
theorem dX9_retained_66 : decode cX9_retained 66 = .ok (.istore_n 3, 1) := by decide +kernel
theorem dX9_retained_67 : decode cX9_retained 67 = .ok (.iload_n 3, 1) := by decide +kernel
theorem dX9_retained_68 : decode cX9_retained 68 = .ok (.aload_n 0, 1) := by decide +kernel
theorem dX9_retained_69 : decode cX9_retained 69 = .ok (.iload_n 1, 1) := by decide +kernel
theorem dX9_retained_70 : decode cX9_retained 70 = .ok (.iconst 0, 1) := by decide +kernel
theorem dX9_retained_71 : decode cX9_retained 71 = .ok (.invokevirtual 66, 3) := by decide +kernel
theorem dX9_retained_74 : decode cX9_retained 74 = .ok (.if_icmp .ge 18, 3) := by decide +kernel
theorem dX9_retained_77 : decode cX9_retained 77 = .ok (.aload_n 0, 1) := by decide +kernel
theorem dX9_retained_78 : decode cX9_retained 78 = .ok (.iload_n 1, 1) := by decide +kernel
theorem dX9_retained_79 : decode cX9_retained 79 = .ok (.iconst 0, 1) := by decide +kernel
theorem dX9_retained_80 : decode cX9_retained 80 = .ok (.iload_n 3, 1) := by decide +kernel
theorem dX9_retained_81 : decode cX9_retained 81 = .ok (.iadd, 1) := by decide +kernel
theorem dX9_retained_82 : decode cX9_retained 82 = .ok (.iconst 0, 1) := by decide +kernel
theorem dX9_retained_83 : decode cX9_retained 83 = .ok (.invokevirtual 51, 3) := by decide +kernel
theorem dX9_retained_86 : decode cX9_retained 86 = .ok (.iinc 3 1, 3) := by decide +kernel
theorem dX9_retained_89 : decode cX9_retained 89 = .ok (.goto (-22), 3) := by decide +kernel
theorem dX9_retained_92 : decode cX9_retained 92 = .ok (.aload_n 0, 1) := by decide +kernel
theorem dX9_retained_93 : decode cX9_retained 93 = .ok (.iload_n 1, 1) := by decide +kernel
theorem dX9_retained_94 : decode cX9_retained 94 = .ok (.iconst 0, 1) := by decide +kernel
theorem dX9_retained_95 : decode cX9_retained 95 = .ok (.invokevirtual 107, 3) := by decide +kernel
theorem dX9_retained_98 : decode cX9_retained 98 = .ok (.goto (-96), 3) := by decide +kernel
theorem dX9_retained_101 : decode cX9_retained 101 = .ok (.iload_n 2, 1) := by decide +kernel
theorem dX9_retained_102 : decode cX9_retained 102 = .ok (.ireturn, 1) := by decide +kernel
theorem dX9_compact_0 : decode cX9_compact 0 = .ok (.iload_n 1, 1) := by decide +kernel
theorem dX9_compact_1 : decode cX9_compact 1 = .ok (.invokestatic 89, 3) := by decide +kernel
theorem dX9_compact_4 : decode cX9_compact 4 = .ok (.ifCond .eq 11, 3) := by decide +kernel
theorem dX9_compact_7 : decode cX9_compact 7 = .ok (.aload_n 0, 1) := by decide +kernel
theorem dX9_compact_8 : decode cX9_compact 8 = .ok (.iload_n 1, 1) := by decide +kernel
theorem dX9_compact_9 : decode cX9_compact 9 = .ok (.invokevirtual 117, 3) := by decide +kernel
theorem dX9_compact_12 : decode cX9_compact 12 = .ok (.goto 4, 3) := by decide +kernel
theorem dX9_compact_15 : decode cX9_compact 15 = .ok (.iconst (-1), 1) := by decide +kernel
theorem dX9_compact_16 : decode cX9_compact 16 = .ok (.ireturn, 1) := by decide +kernel
theorem dX9_retain_0 : decode cX9_retain 0 = .ok (.iload_n 1, 1) := by decide +kernel
theorem dX9_retain_1 : decode cX9_retain 1 = .ok (.invokestatic 89, 3) := by decide +kernel
theorem dX9_retain_4 : decode cX9_retain 4 = .ok (.ifCond .eq 11, 3) := by decide +kernel
theorem dX9_retain_7 : decode cX9_retain 7 = .ok (.aload_n 0, 1) := by decide +kernel
theorem dX9_retain_8 : decode cX9_retain 8 = .ok (.iload_n 1, 1) := by decide +kernel
theorem dX9_retain_9 : decode cX9_retain 9 = .ok (.invokevirtual 120, 3) := by decide +kernel
theorem dX9_retain_12 : decode cX9_retain 12 = .ok (.goto 4, 3) := by decide +kernel
theorem dX9_retain_15 : decode cX9_retain 15 = .ok (.iconst (-1), 1) := by decide +kernel
theorem dX9_retain_16 : decode cX9_retain 16 = .ok (.ireturn, 1) := by decide +kernel
theorem dX9_feed_0 : decode cX9_feed 0 = .ok (.iload_n 1, 1) := by decide +kernel
theorem dX9_feed_1 : decode cX9_feed 1 = .ok (.iconst 0, 1) := by decide +kernel
theorem dX9_feed_2 : decode cX9_feed 2 = .ok (.bipush 127, 2) := by decide +kernel
theorem dX9_feed_4 : decode cX9_feed 4 = .ok (.invokestatic 55, 3) := by decide +kernel
theorem dX9_feed_7 : decode cX9_feed 7 = .ok (.ifCond .ne 6, 3) := by decide +kernel
theorem dX9_feed_10 : decode cX9_feed 10 = .ok (.bipush (-2), 2) := by decide +kernel
theorem dX9_feed_12 : decode cX9_feed 12 = .ok (.ireturn, 1) := by decide +kernel
theorem dX9_feed_13 : decode cX9_feed 13 = .ok (.aload_n 0, 1) := by decide +kernel
theorem dX9_feed_14 : decode cX9_feed 14 = .ok (.getfield 123, 3) := by decide +kernel
theorem dX9_feed_17 : decode cX9_feed 17 = .ok (.bipush 100, 2) := by decide +kernel
theorem dX9_feed_19 : decode cX9_feed 19 = .ok (.if_icmp .ne 6, 3) := by decide +kernel
theorem dX9_feed_22 : decode cX9_feed 22 = .ok (.bipush (-4), 2) := by decide +kernel
theorem dX9_feed_24 : decode cX9_feed 24 = .ok (.ireturn, 1) := by decide +kernel
theorem dX9_feed_25 : decode cX9_feed 25 = .ok (.aload_n 0, 1) := by decide +kernel
theorem dX9_feed_26 : decode cX9_feed 26 = .ok (.getfield 21, 3) := by decide +kernel
theorem dX9_feed_29 : decode cX9_feed 29 = .ok (.aload_n 0, 1) := by decide +kernel
theorem dX9_feed_30 : decode cX9_feed 30 = .ok (.dup, 1) := by decide +kernel
theorem dX9_feed_31 : decode cX9_feed 31 = .ok (.getfield 123, 3) := by decide +kernel
theorem dX9_feed_34 : decode cX9_feed 34 = .ok (.dup_x1, 1) := by decide +kernel
theorem dX9_feed_35 : decode cX9_feed 35 = .ok (.iconst 1, 1) := by decide +kernel
theorem dX9_feed_36 : decode cX9_feed 36 = .ok (.iadd, 1) := by decide +kernel
theorem dX9_feed_37 : decode cX9_feed 37 = .ok (.putfield 123, 3) := by decide +kernel
theorem dX9_feed_40 : decode cX9_feed 40 = .ok (.iload_n 1, 1) := by decide +kernel
theorem dX9_feed_41 : decode cX9_feed 41 = .ok (.iastore, 1) := by decide +kernel
theorem dX9_feed_42 : decode cX9_feed 42 = .ok (.aload_n 0, 1) := by decide +kernel
theorem dX9_feed_43 : decode cX9_feed 43 = .ok (.getfield 123, 3) := by decide +kernel
theorem dX9_feed_46 : decode cX9_feed 46 = .ok (.ireturn, 1) := by decide +kernel
theorem dX9_sees_0 : decode cX9_sees 0 = .ok (.aload_n 0, 1) := by decide +kernel
theorem dX9_sees_1 : decode cX9_sees 1 = .ok (.getfield 127, 3) := by decide +kernel
theorem dX9_sees_4 : decode cX9_sees 4 = .ok (.ifCond .ge 35, 3) := by decide +kernel
theorem dX9_sees_7 : decode cX9_sees 7 = .ok (.aload_n 0, 1) := by decide +kernel
theorem dX9_sees_8 : decode cX9_sees 8 = .ok (.getfield 130, 3) := by decide +kernel
theorem dX9_sees_11 : decode cX9_sees 11 = .ok (.aload_n 0, 1) := by decide +kernel
theorem dX9_sees_12 : decode cX9_sees 12 = .ok (.getfield 123, 3) := by decide +kernel
theorem dX9_sees_15 : decode cX9_sees 15 = .ok (.if_icmp .ge 24, 3) := by decide +kernel
theorem dX9_sees_18 : decode cX9_sees 18 = .ok (.aload_n 0, 1) := by decide +kernel
theorem dX9_sees_19 : decode cX9_sees 19 = .ok (.getfield 21, 3) := by decide +kernel
theorem dX9_sees_22 : decode cX9_sees 22 = .ok (.aload_n 0, 1) := by decide +kernel
theorem dX9_sees_23 : decode cX9_sees 23 = .ok (.getfield 130, 3) := by decide +kernel
theorem dX9_sees_26 : decode cX9_sees 26 = .ok (.iaload, 1) := by decide +kernel
theorem dX9_sees_27 : decode cX9_sees 27 = .ok (.iload_n 1, 1) := by decide +kernel
theorem dX9_sees_28 : decode cX9_sees 28 = .ok (.iload_n 2, 1) := by decide +kernel
theorem dX9_sees_29 : decode cX9_sees 29 = .ok (.invokestatic 55, 3) := by decide +kernel
theorem dX9_sees_32 : decode cX9_sees 32 = .ok (.ifCond .eq 7, 3) := by decide +kernel
theorem dX9_sees_35 : decode cX9_sees 35 = .ok (.iconst 1, 1) := by decide +kernel
theorem dX9_sees_36 : decode cX9_sees 36 = .ok (.goto 4, 3) := by decide +kernel
theorem dX9_sees_39 : decode cX9_sees 39 = .ok (.iconst 0, 1) := by decide +kernel
theorem dX9_sees_40 : decode cX9_sees 40 = .ok (.ireturn, 1) := by decide +kernel
theorem dX9_must_0 : decode cX9_must 0 = .ok (.aload_n 0, 1) := by decide +kernel
theorem dX9_must_1 : decode cX9_must 1 = .ok (.iload_n 1, 1) := by decide +kernel
theorem dX9_must_2 : decode cX9_must 2 = .ok (.iload_n 2, 1) := by decide +kernel
theorem dX9_must_3 : decode cX9_must 3 = .ok (.invokevirtual 133, 3) := by decide +kernel
theorem dX9_must_6 : decode cX9_must 6 = .ok (.ifCond .ne 27, 3) := by decide +kernel
theorem dX9_must_9 : decode cX9_must 9 = .ok (.aload_n 0, 1) := by decide +kernel
theorem dX9_must_10 : decode cX9_must 10 = .ok (.aload_n 0, 1) := by decide +kernel
theorem dX9_must_11 : decode cX9_must 11 = .ok (.getfield 127, 3) := by decide +kernel
theorem dX9_must_14 : decode cX9_must 14 = .ok (.ifCond .ge 10, 3) := by decide +kernel
theorem dX9_must_17 : decode cX9_must 17 = .ok (.aload_n 0, 1) := by decide +kernel
theorem dX9_must_18 : decode cX9_must 18 = .ok (.getfield 130, 3) := by decide +kernel
theorem dX9_must_21 : decode cX9_must 21 = .ok (.goto 7, 3) := by decide +kernel
theorem dX9_must_24 : decode cX9_must 24 = .ok (.aload_n 0, 1) := by decide +kernel
theorem dX9_must_25 : decode cX9_must 25 = .ok (.getfield 127, 3) := by decide +kernel
theorem dX9_must_28 : decode cX9_must 28 = .ok (.putfield 127, 3) := by decide +kernel
theorem dX9_must_31 : decode cX9_must 31 = .ok (.iload_n 1, 1) := by decide +kernel
theorem dX9_must_32 : decode cX9_must 32 = .ok (.ireturn, 1) := by decide +kernel
theorem dX9_must_33 : decode cX9_must 33 = .ok (.aload_n 0, 1) := by decide +kernel
theorem dX9_must_34 : decode cX9_must 34 = .ok (.getfield 21, 3) := by decide +kernel
theorem dX9_must_37 : decode cX9_must 37 = .ok (.aload_n 0, 1) := by decide +kernel
theorem dX9_must_38 : decode cX9_must 38 = .ok (.dup, 1) := by decide +kernel
theorem dX9_must_39 : decode cX9_must 39 = .ok (.getfield 130, 3) := by decide +kernel
theorem dX9_must_42 : decode cX9_must 42 = .ok (.dup_x1, 1) := by decide +kernel
theorem dX9_must_43 : decode cX9_must 43 = .ok (.iconst 1, 1) := by decide +kernel
theorem dX9_must_44 : decode cX9_must 44 = .ok (.iadd, 1) := by decide +kernel
theorem dX9_must_45 : decode cX9_must 45 = .ok (.putfield 130, 3) := by decide +kernel
theorem dX9_must_48 : decode cX9_must 48 = .ok (.iaload, 1) := by decide +kernel
theorem dX9_must_49 : decode cX9_must 49 = .ok (.ireturn, 1) := by decide +kernel
theorem dX9_number_0 : decode cX9_number 0 = .ok (.aload_n 0, 1) := by decide +kernel
theorem dX9_number_1 : decode cX9_number 1 = .ok (.bipush 48, 2) := by decide +kernel
theorem dX9_number_3 : decode cX9_number 3 = .ok (.bipush 57, 2) := by decide +kernel
theorem dX9_number_5 : decode cX9_number 5 = .ok (.invokevirtual 136, 3) := by decide +kernel
theorem dX9_number_8 : decode cX9_number 8 = .ok (.bipush 48, 2) := by decide +kernel
theorem dX9_number_10 : decode cX9_number 10 = .ok (.isub, 1) := by decide +kernel
theorem dX9_number_11 : decode cX9_number 11 = .ok (.istore_n 2, 1) := by decide +kernel
theorem dX9_number_12 : decode cX9_number 12 = .ok (.iconst 1, 1) := by decide +kernel
theorem dX9_number_13 : decode cX9_number 13 = .ok (.istore_n 3, 1) := by decide +kernel
theorem dX9_number_14 : decode cX9_number 14 = .ok (.iload_n 3, 1) := by decide +kernel
theorem dX9_number_15 : decode cX9_number 15 = .ok (.iload_n 1, 1) := by decide +kernel
theorem dX9_number_16 : decode cX9_number 16 = .ok (.if_icmp .ge 45, 3) := by decide +kernel
theorem dX9_number_19 : decode cX9_number 19 = .ok (.aload_n 0, 1) := by decide +kernel
theorem dX9_number_20 : decode cX9_number 20 = .ok (.bipush 48, 2) := by decide +kernel
theorem dX9_number_22 : decode cX9_number 22 = .ok (.bipush 57, 2) := by decide +kernel
theorem dX9_number_24 : decode cX9_number 24 = .ok (.invokevirtual 133, 3) := by decide +kernel
theorem dX9_number_27 : decode cX9_number 27 = .ok (.ifCond .eq 34, 3) := by decide +kernel
theorem dX9_number_30 : decode cX9_number 30 = .ok (.bipush 10, 2) := by decide +kernel
theorem dX9_number_32 : decode cX9_number 32 = .ok (.iload_n 2, 1) := by decide +kernel
theorem dX9_number_33 : decode cX9_number 33 = .ok (.imul, 1) := by decide +kernel
theorem dX9_number_34 : decode cX9_number 34 = .ok (.aload_n 0, 1) := by decide +kernel
theorem dX9_number_35 : decode cX9_number 35 = .ok (.getfield 21, 3) := by decide +kernel
theorem dX9_number_38 : decode cX9_number 38 = .ok (.aload_n 0, 1) := by decide +kernel
theorem dX9_number_39 : decode cX9_number 39 = .ok (.dup, 1) := by decide +kernel
theorem dX9_number_40 : decode cX9_number 40 = .ok (.getfield 130, 3) := by decide +kernel
theorem dX9_number_43 : decode cX9_number 43 = .ok (.dup_x1, 1) := by decide +kernel
theorem dX9_number_44 : decode cX9_number 44 = .ok (.iconst 1, 1) := by decide +kernel
theorem dX9_number_45 : decode cX9_number 45 = .ok (.iadd, 1) := by decide +kernel
theorem dX9_number_46 : decode cX9_number 46 = .ok (.putfield 130, 3) := by decide +kernel
theorem dX9_number_49 : decode cX9_number 49 = .ok (.iaload, 1) := by decide +kernel
theorem dX9_number_50 : decode cX9_number 50 = .ok (.iadd, 1) := by decide +kernel
theorem dX9_number_51 : decode cX9_number 51 = .ok (.bipush 48, 2) := by decide +kernel
theorem dX9_number_53 : decode cX9_number 53 = .ok (.isub, 1) := by decide +kernel
theorem dX9_number_54 : decode cX9_number 54 = .ok (.istore_n 2, 1) := by decide +kernel
theorem dX9_number_55 : decode cX9_number 55 = .ok (.iinc 3 1, 3) := by decide +kernel
theorem dX9_number_58 : decode cX9_number 58 = .ok (.goto (-44), 3) := by decide +kernel
theorem dX9_number_61 : decode cX9_number 61 = .ok (.iload_n 2, 1) := by decide +kernel
theorem dX9_number_62 : decode cX9_number 62 = .ok (.ireturn, 1) := by decide +kernel
theorem dX9_clause_0 : decode cX9_clause 0 = .ok (.aload_n 0, 1) := by decide +kernel
theorem dX9_clause_1 : decode cX9_clause 1 = .ok (.getfield 24, 3) := by decide +kernel
theorem dX9_clause_4 : decode cX9_clause 4 = .ok (.iload_n 1, 1) := by decide +kernel
theorem dX9_clause_5 : decode cX9_clause 5 = .ok (.aload_n 0, 1) := by decide +kernel
theorem dX9_clause_6 : decode cX9_clause 6 = .ok (.bipush 48, 2) := by decide +kernel
theorem dX9_clause_8 : decode cX9_clause 8 = .ok (.bipush 51, 2) := by decide +kernel
theorem dX9_clause_10 : decode cX9_clause 10 = .ok (.invokevirtual 136, 3) := by decide +kernel
theorem dX9_clause_13 : decode cX9_clause 13 = .ok (.bipush 48, 2) := by decide +kernel
theorem dX9_clause_15 : decode cX9_clause 15 = .ok (.isub, 1) := by decide +kernel
theorem dX9_clause_16 : decode cX9_clause 16 = .ok (.iastore, 1) := by decide +kernel
theorem dX9_clause_17 : decode cX9_clause 17 = .ok (.aload_n 0, 1) := by decide +kernel
theorem dX9_clause_18 : decode cX9_clause 18 = .ok (.getfield 24, 3) := by decide +kernel
theorem dX9_clause_21 : decode cX9_clause 21 = .ok (.iload_n 1, 1) := by decide +kernel
theorem dX9_clause_22 : decode cX9_clause 22 = .ok (.iconst 1, 1) := by decide +kernel
theorem dX9_clause_23 : decode cX9_clause 23 = .ok (.iadd, 1) := by decide +kernel
theorem dX9_clause_24 : decode cX9_clause 24 = .ok (.aload_n 0, 1) := by decide +kernel
theorem dX9_clause_25 : decode cX9_clause 25 = .ok (.bipush 97, 2) := by decide +kernel
theorem dX9_clause_27 : decode cX9_clause 27 = .ok (.bipush 122, 2) := by decide +kernel
theorem dX9_clause_29 : decode cX9_clause 29 = .ok (.invokevirtual 136, 3) := by decide +kernel
theorem dX9_clause_32 : decode cX9_clause 32 = .ok (.bipush 97, 2) := by decide +kernel
theorem dX9_clause_34 : decode cX9_clause 34 = .ok (.isub, 1) := by decide +kernel
theorem dX9_clause_35 : decode cX9_clause 35 = .ok (.iastore, 1) := by decide +kernel
theorem dX9_clause_36 : decode cX9_clause 36 = .ok (.aload_n 0, 1) := by decide +kernel
theorem dX9_clause_37 : decode cX9_clause 37 = .ok (.bipush 45, 2) := by decide +kernel
theorem dX9_clause_39 : decode cX9_clause 39 = .ok (.bipush 45, 2) := by decide +kernel
theorem dX9_clause_41 : decode cX9_clause 41 = .ok (.invokevirtual 133, 3) := by decide +kernel
theorem dX9_clause_44 : decode cX9_clause 44 = .ok (.istore_n 2, 1) := by decide +kernel
theorem dX9_clause_45 : decode cX9_clause 45 = .ok (.iload_n 2, 1) := by decide +kernel
theorem dX9_clause_46 : decode cX9_clause 46 = .ok (.ifCond .eq 16, 3) := by decide +kernel
theorem dX9_clause_49 : decode cX9_clause 49 = .ok (.aload_n 0, 1) := by decide +kernel
theorem dX9_clause_50 : decode cX9_clause 50 = .ok (.dup, 1) := by decide +kernel
theorem dX9_clause_51 : decode cX9_clause 51 = .ok (.getfield 130, 3) := by decide +kernel
theorem dX9_clause_54 : decode cX9_clause 54 = .ok (.iconst 1, 1) := by decide +kernel
theorem dX9_clause_55 : decode cX9_clause 55 = .ok (.iadd, 1) := by decide +kernel
theorem dX9_clause_56 : decode cX9_clause 56 = .ok (.putfield 130, 3) := by decide +kernel
theorem dX9_clause_59 : decode cX9_clause 59 = .ok (.goto 12, 3) := by decide +kernel
theorem dX9_clause_62 : decode cX9_clause 62 = .ok (.aload_n 0, 1) := by decide +kernel
theorem dX9_clause_63 : decode cX9_clause 63 = .ok (.bipush 61, 2) := by decide +kernel
theorem dX9_clause_65 : decode cX9_clause 65 = .ok (.bipush 61, 2) := by decide +kernel
theorem dX9_clause_67 : decode cX9_clause 67 = .ok (.invokevirtual 136, 3) := by decide +kernel
theorem dX9_clause_70 : decode cX9_clause 70 = .ok (.pop, 1) := by decide +kernel
theorem dX9_clause_71 : decode cX9_clause 71 = .ok (.iload_n 2, 1) := by decide +kernel
theorem dX9_clause_72 : decode cX9_clause 72 = .ok (.ifCond .ne 18, 3) := by decide +kernel
theorem dX9_clause_75 : decode cX9_clause 75 = .ok (.aload_n 0, 1) := by decide +kernel
theorem dX9_clause_76 : decode cX9_clause 76 = .ok (.bipush 45, 2) := by decide +kernel
theorem dX9_clause_78 : decode cX9_clause 78 = .ok (.bipush 45, 2) := by decide +kernel
theorem dX9_clause_80 : decode cX9_clause 80 = .ok (.invokevirtual 133, 3) := by decide +kernel
theorem dX9_clause_83 : decode cX9_clause 83 = .ok (.ifCond .eq 7, 3) := by decide +kernel
theorem dX9_clause_86 : decode cX9_clause 86 = .ok (.iconst 1, 1) := by decide +kernel
theorem dX9_clause_87 : decode cX9_clause 87 = .ok (.goto 4, 3) := by decide +kernel
theorem dX9_clause_90 : decode cX9_clause 90 = .ok (.iconst 0, 1) := by decide +kernel
theorem dX9_clause_91 : decode cX9_clause 91 = .ok (.istore_n 3, 1) := by decide +kernel
theorem dX9_clause_92 : decode cX9_clause 92 = .ok (.aload_n 0, 1) := by decide +kernel
theorem dX9_clause_93 : decode cX9_clause 93 = .ok (.dup, 1) := by decide +kernel
theorem dX9_clause_94 : decode cX9_clause 94 = .ok (.getfield 130, 3) := by decide +kernel
theorem dX9_clause_97 : decode cX9_clause 97 = .ok (.iload_n 3, 1) := by decide +kernel
theorem dX9_clause_98 : decode cX9_clause 98 = .ok (.ifCond .eq 7, 3) := by decide +kernel
theorem dX9_clause_101 : decode cX9_clause 101 = .ok (.iconst 1, 1) := by decide +kernel
theorem dX9_clause_102 : decode cX9_clause 102 = .ok (.goto 4, 3) := by decide +kernel
theorem dX9_clause_105 : decode cX9_clause 105 = .ok (.iconst 0, 1) := by decide +kernel
theorem dX9_clause_106 : decode cX9_clause 106 = .ok (.iadd, 1) := by decide +kernel
theorem dX9_clause_107 : decode cX9_clause 107 = .ok (.putfield 130, 3) := by decide +kernel
theorem dX9_clause_110 : decode cX9_clause 110 = .ok (.aload_n 0, 1) := by decide +kernel
theorem dX9_clause_111 : decode cX9_clause 111 = .ok (.getfield 24, 3) := by decide +kernel
theorem dX9_clause_114 : decode cX9_clause 114 = .ok (.iload_n 1, 1) := by decide +kernel
theorem dX9_clause_115 : decode cX9_clause 115 = .ok (.iconst 2, 1) := by decide +kernel
theorem dX9_clause_116 : decode cX9_clause 116 = .ok (.iadd, 1) := by decide +kernel
theorem dX9_clause_117 : decode cX9_clause 117 = .ok (.iload_n 2, 1) := by decide +kernel
theorem dX9_clause_118 : decode cX9_clause 118 = .ok (.ifCond .eq 7, 3) := by decide +kernel
theorem dX9_clause_121 : decode cX9_clause 121 = .ok (.iconst 1, 1) := by decide +kernel
theorem dX9_clause_122 : decode cX9_clause 122 = .ok (.goto 4, 3) := by decide +kernel
theorem dX9_clause_125 : decode cX9_clause 125 = .ok (.iconst 0, 1) := by decide +kernel
theorem dX9_clause_126 : decode cX9_clause 126 = .ok (.iastore, 1) := by decide +kernel
theorem dX9_clause_127 : decode cX9_clause 127 = .ok (.aload_n 0, 1) := by decide +kernel
theorem dX9_clause_128 : decode cX9_clause 128 = .ok (.getfield 24, 3) := by decide +kernel
theorem dX9_clause_131 : decode cX9_clause 131 = .ok (.iload_n 1, 1) := by decide +kernel
theorem dX9_clause_132 : decode cX9_clause 132 = .ok (.iconst 3, 1) := by decide +kernel
theorem dX9_clause_133 : decode cX9_clause 133 = .ok (.iadd, 1) := by decide +kernel
theorem dX9_clause_134 : decode cX9_clause 134 = .ok (.iconst 0, 1) := by decide +kernel
theorem dX9_clause_135 : decode cX9_clause 135 = .ok (.iastore, 1) := by decide +kernel
theorem dX9_clause_136 : decode cX9_clause 136 = .ok (.aload_n 0, 1) := by decide +kernel
theorem dX9_clause_137 : decode cX9_clause 137 = .ok (.getfield 24, 3) := by decide +kernel
theorem dX9_clause_140 : decode cX9_clause 140 = .ok (.iload_n 1, 1) := by decide +kernel
theorem dX9_clause_141 : decode cX9_clause 141 = .ok (.iconst 4, 1) := by decide +kernel
theorem dX9_clause_142 : decode cX9_clause 142 = .ok (.iadd, 1) := by decide +kernel
theorem dX9_clause_143 : decode cX9_clause 143 = .ok (.iconst 1, 1) := by decide +kernel
theorem dX9_clause_144 : decode cX9_clause 144 = .ok (.iastore, 1) := by decide +kernel
theorem dX9_clause_145 : decode cX9_clause 145 = .ok (.iload_n 2, 1) := by decide +kernel
theorem dX9_clause_146 : decode cX9_clause 146 = .ok (.ifCond .ne 64, 3) := by decide +kernel
theorem dX9_clause_149 : decode cX9_clause 149 = .ok (.aload_n 0, 1) := by decide +kernel
theorem dX9_clause_150 : decode cX9_clause 150 = .ok (.iconst 4, 1) := by decide +kernel
theorem dX9_clause_151 : decode cX9_clause 151 = .ok (.invokevirtual 139, 3) := by decide +kernel
theorem dX9_clause_154 : decode cX9_clause 154 = .ok (.istore 4, 2) := by decide +kernel
theorem dX9_clause_156 : decode cX9_clause 156 = .ok (.aload_n 0, 1) := by decide +kernel
theorem dX9_clause_157 : decode cX9_clause 157 = .ok (.getfield 24, 3) := by decide +kernel
theorem dX9_clause_160 : decode cX9_clause 160 = .ok (.iload_n 1, 1) := by decide +kernel
theorem dX9_clause_161 : decode cX9_clause 161 = .ok (.iconst 3, 1) := by decide +kernel
theorem dX9_clause_162 : decode cX9_clause 162 = .ok (.iadd, 1) := by decide +kernel
theorem dX9_clause_163 : decode cX9_clause 163 = .ok (.iload_n 3, 1) := by decide +kernel
theorem dX9_clause_164 : decode cX9_clause 164 = .ok (.ifCond .eq 9, 3) := by decide +kernel
theorem dX9_clause_167 : decode cX9_clause 167 = .ok (.iload 4, 2) := by decide +kernel
theorem dX9_clause_169 : decode cX9_clause 169 = .ok (.ineg, 1) := by decide +kernel
theorem dX9_clause_170 : decode cX9_clause 170 = .ok (.goto 5, 3) := by decide +kernel
theorem dX9_clause_173 : decode cX9_clause 173 = .ok (.iload 4, 2) := by decide +kernel
theorem dX9_clause_175 : decode cX9_clause 175 = .ok (.iastore, 1) := by decide +kernel
theorem dX9_clause_176 : decode cX9_clause 176 = .ok (.aload_n 0, 1) := by decide +kernel
theorem dX9_clause_177 : decode cX9_clause 177 = .ok (.bipush 47, 2) := by decide +kernel
theorem dX9_clause_179 : decode cX9_clause 179 = .ok (.bipush 47, 2) := by decide +kernel
theorem dX9_clause_181 : decode cX9_clause 181 = .ok (.invokevirtual 133, 3) := by decide +kernel
theorem dX9_clause_184 : decode cX9_clause 184 = .ok (.ifCond .eq 26, 3) := by decide +kernel
theorem dX9_clause_187 : decode cX9_clause 187 = .ok (.aload_n 0, 1) := by decide +kernel
theorem dX9_clause_188 : decode cX9_clause 188 = .ok (.dup, 1) := by decide +kernel
theorem dX9_clause_189 : decode cX9_clause 189 = .ok (.getfield 130, 3) := by decide +kernel
theorem dX9_clause_192 : decode cX9_clause 192 = .ok (.iconst 1, 1) := by decide +kernel
theorem dX9_clause_193 : decode cX9_clause 193 = .ok (.iadd, 1) := by decide +kernel
theorem dX9_clause_194 : decode cX9_clause 194 = .ok (.putfield 130, 3) := by decide +kernel
theorem dX9_clause_197 : decode cX9_clause 197 = .ok (.aload_n 0, 1) := by decide +kernel
theorem dX9_clause_198 : decode cX9_clause 198 = .ok (.getfield 24, 3) := by decide +kernel
theorem dX9_clause_201 : decode cX9_clause 201 = .ok (.iload_n 1, 1) := by decide +kernel
theorem dX9_clause_202 : decode cX9_clause 202 = .ok (.iconst 4, 1) := by decide +kernel
theorem dX9_clause_203 : decode cX9_clause 203 = .ok (.iadd, 1) := by decide +kernel
theorem dX9_clause_204 : decode cX9_clause 204 = .ok (.aload_n 0, 1) := by decide +kernel
theorem dX9_clause_205 : decode cX9_clause 205 = .ok (.iconst 2, 1) := by decide +kernel
theorem dX9_clause_206 : decode cX9_clause 206 = .ok (.invokevirtual 139, 3) := by decide +kernel
theorem dX9_clause_209 : decode cX9_clause 209 = .ok (.iastore, 1) := by decide +kernel
theorem dX9_clause_210 : decode cX9_clause 210 = .ok (.return_, 1) := by decide +kernel
theorem dX9_read_0 : decode cX9_read 0 = .ok (.aload_n 0, 1) := by decide +kernel
theorem dX9_read_1 : decode cX9_read 1 = .ok (.iconst 0, 1) := by decide +kernel
theorem dX9_read_2 : decode cX9_read 2 = .ok (.putfield 130, 3) := by decide +kernel
theorem dX9_read_5 : decode cX9_read 5 = .ok (.aload_n 0, 1) := by decide +kernel
theorem dX9_read_6 : decode cX9_read 6 = .ok (.iconst (-1), 1) := by decide +kernel
theorem dX9_read_7 : decode cX9_read 7 = .ok (.putfield 127, 3) := by decide +kernel
theorem dX9_read_10 : decode cX9_read 10 = .ok (.iconst 1, 1) := by decide +kernel
theorem dX9_read_11 : decode cX9_read 11 = .ok (.istore_n 1, 1) := by decide +kernel
theorem dX9_read_12 : decode cX9_read 12 = .ok (.aload_n 0, 1) := by decide +kernel
theorem dX9_read_13 : decode cX9_read 13 = .ok (.iconst 0, 1) := by decide +kernel
theorem dX9_read_14 : decode cX9_read 14 = .ok (.invokevirtual 142, 3) := by decide +kernel
theorem dX9_read_17 : decode cX9_read 17 = .ok (.aload_n 0, 1) := by decide +kernel
theorem dX9_read_18 : decode cX9_read 18 = .ok (.getfield 127, 3) := by decide +kernel
theorem dX9_read_21 : decode cX9_read 21 = .ok (.ifCond .ge 53, 3) := by decide +kernel
theorem dX9_read_24 : decode cX9_read 24 = .ok (.aload_n 0, 1) := by decide +kernel
theorem dX9_read_25 : decode cX9_read 25 = .ok (.getfield 130, 3) := by decide +kernel
theorem dX9_read_28 : decode cX9_read 28 = .ok (.aload_n 0, 1) := by decide +kernel
theorem dX9_read_29 : decode cX9_read 29 = .ok (.getfield 123, 3) := by decide +kernel
theorem dX9_read_32 : decode cX9_read 32 = .ok (.if_icmp .ge 42, 3) := by decide +kernel
theorem dX9_read_35 : decode cX9_read 35 = .ok (.iload_n 1, 1) := by decide +kernel
theorem dX9_read_36 : decode cX9_read 36 = .ok (.bipush 12, 2) := by decide +kernel
theorem dX9_read_38 : decode cX9_read 38 = .ok (.if_icmp .ne 14, 3) := by decide +kernel
theorem dX9_read_41 : decode cX9_read 41 = .ok (.aload_n 0, 1) := by decide +kernel
theorem dX9_read_42 : decode cX9_read 42 = .ok (.aload_n 0, 1) := by decide +kernel
theorem dX9_read_43 : decode cX9_read 43 = .ok (.getfield 130, 3) := by decide +kernel
theorem dX9_read_46 : decode cX9_read 46 = .ok (.putfield 127, 3) := by decide +kernel
theorem dX9_read_49 : decode cX9_read 49 = .ok (.goto (-32), 3) := by decide +kernel
theorem dX9_read_52 : decode cX9_read 52 = .ok (.aload_n 0, 1) := by decide +kernel
theorem dX9_read_53 : decode cX9_read 53 = .ok (.bipush 59, 2) := by decide +kernel
theorem dX9_read_55 : decode cX9_read 55 = .ok (.bipush 59, 2) := by decide +kernel
theorem dX9_read_57 : decode cX9_read 57 = .ok (.invokevirtual 136, 3) := by decide +kernel
theorem dX9_read_60 : decode cX9_read 60 = .ok (.pop, 1) := by decide +kernel
theorem dX9_read_61 : decode cX9_read 61 = .ok (.aload_n 0, 1) := by decide +kernel
theorem dX9_read_62 : decode cX9_read 62 = .ok (.iconst 5, 1) := by decide +kernel
theorem dX9_read_63 : decode cX9_read 63 = .ok (.iload_n 1, 1) := by decide +kernel
theorem dX9_read_64 : decode cX9_read 64 = .ok (.imul, 1) := by decide +kernel
theorem dX9_read_65 : decode cX9_read 65 = .ok (.invokevirtual 142, 3) := by decide +kernel
theorem dX9_read_68 : decode cX9_read 68 = .ok (.iinc 1 1, 3) := by decide +kernel
theorem dX9_read_71 : decode cX9_read 71 = .ok (.goto (-54), 3) := by decide +kernel
theorem dX9_read_74 : decode cX9_read 74 = .ok (.aload_n 0, 1) := by decide +kernel
theorem dX9_read_75 : decode cX9_read 75 = .ok (.iconst 0, 1) := by decide +kernel
theorem dX9_read_76 : decode cX9_read 76 = .ok (.putfield 123, 3) := by decide +kernel
theorem dX9_read_79 : decode cX9_read 79 = .ok (.aload_n 0, 1) := by decide +kernel
theorem dX9_read_80 : decode cX9_read 80 = .ok (.getfield 127, 3) := by decide +kernel
theorem dX9_read_83 : decode cX9_read 83 = .ok (.ifCond .lt 11, 3) := by decide +kernel
theorem dX9_read_86 : decode cX9_read 86 = .ok (.bipush (-10), 2) := by decide +kernel
theorem dX9_read_88 : decode cX9_read 88 = .ok (.aload_n 0, 1) := by decide +kernel
theorem dX9_read_89 : decode cX9_read 89 = .ok (.getfield 127, 3) := by decide +kernel
theorem dX9_read_92 : decode cX9_read 92 = .ok (.isub, 1) := by decide +kernel
theorem dX9_read_93 : decode cX9_read 93 = .ok (.ireturn, 1) := by decide +kernel
theorem dX9_read_94 : decode cX9_read 94 = .ok (.iconst 0, 1) := by decide +kernel
theorem dX9_read_95 : decode cX9_read 95 = .ok (.istore_n 2, 1) := by decide +kernel
theorem dX9_read_96 : decode cX9_read 96 = .ok (.iconst 0, 1) := by decide +kernel
theorem dX9_read_97 : decode cX9_read 97 = .ok (.istore_n 3, 1) := by decide +kernel
theorem dX9_read_98 : decode cX9_read 98 = .ok (.iload_n 3, 1) := by decide +kernel
theorem dX9_read_99 : decode cX9_read 99 = .ok (.iconst 5, 1) := by decide +kernel
theorem dX9_read_100 : decode cX9_read 100 = .ok (.iload_n 1, 1) := by decide +kernel
theorem dX9_read_101 : decode cX9_read 101 = .ok (.imul, 1) := by decide +kernel
theorem dX9_read_102 : decode cX9_read 102 = .ok (.if_icmp .ge 100, 3) := by decide +kernel
theorem dX9_read_105 : decode cX9_read 105 = .ok (.aload_n 0, 1) := by decide +kernel
theorem dX9_read_106 : decode cX9_read 106 = .ok (.aload_n 0, 1) := by decide +kernel
theorem dX9_read_107 : decode cX9_read 107 = .ok (.getfield 24, 3) := by decide +kernel
theorem dX9_read_110 : decode cX9_read 110 = .ok (.iload_n 3, 1) := by decide +kernel
theorem dX9_read_111 : decode cX9_read 111 = .ok (.iaload, 1) := by decide +kernel
theorem dX9_read_112 : decode cX9_read 112 = .ok (.sipush 1271, 3) := by decide +kernel
theorem dX9_read_115 : decode cX9_read 115 = .ok (.invokevirtual 59, 3) := by decide +kernel
theorem dX9_read_118 : decode cX9_read 118 = .ok (.sipush 200, 3) := by decide +kernel
theorem dX9_read_121 : decode cX9_read 121 = .ok (.if_icmp .ge 75, 3) := by decide +kernel
theorem dX9_read_124 : decode cX9_read 124 = .ok (.aload_n 0, 1) := by decide +kernel
theorem dX9_read_125 : decode cX9_read 125 = .ok (.getfield 24, 3) := by decide +kernel
theorem dX9_read_128 : decode cX9_read 128 = .ok (.iload_n 3, 1) := by decide +kernel
theorem dX9_read_129 : decode cX9_read 129 = .ok (.iconst 2, 1) := by decide +kernel
theorem dX9_read_130 : decode cX9_read 130 = .ok (.iadd, 1) := by decide +kernel
theorem dX9_read_131 : decode cX9_read 131 = .ok (.iaload, 1) := by decide +kernel
theorem dX9_read_132 : decode cX9_read 132 = .ok (.iconst 1, 1) := by decide +kernel
theorem dX9_read_133 : decode cX9_read 133 = .ok (.if_icmp .ne 7, 3) := by decide +kernel
theorem dX9_read_136 : decode cX9_read 136 = .ok (.iconst 1, 1) := by decide +kernel
theorem dX9_read_137 : decode cX9_read 137 = .ok (.goto 4, 3) := by decide +kernel
theorem dX9_read_140 : decode cX9_read 140 = .ok (.iconst 0, 1) := by decide +kernel
theorem dX9_read_141 : decode cX9_read 141 = .ok (.istore 4, 2) := by decide +kernel
theorem dX9_read_143 : decode cX9_read 143 = .ok (.aload_n 0, 1) := by decide +kernel
theorem dX9_read_144 : decode cX9_read 144 = .ok (.aload_n 0, 1) := by decide +kernel
theorem dX9_read_145 : decode cX9_read 145 = .ok (.getfield 24, 3) := by decide +kernel
theorem dX9_read_148 : decode cX9_read 148 = .ok (.iload_n 3, 1) := by decide +kernel
theorem dX9_read_149 : decode cX9_read 149 = .ok (.iaload, 1) := by decide +kernel
theorem dX9_read_150 : decode cX9_read 150 = .ok (.aload_n 0, 1) := by decide +kernel
theorem dX9_read_151 : decode cX9_read 151 = .ok (.getfield 24, 3) := by decide +kernel
theorem dX9_read_154 : decode cX9_read 154 = .ok (.iload_n 3, 1) := by decide +kernel
theorem dX9_read_155 : decode cX9_read 155 = .ok (.iconst 1, 1) := by decide +kernel
theorem dX9_read_156 : decode cX9_read 156 = .ok (.iadd, 1) := by decide +kernel
theorem dX9_read_157 : decode cX9_read 157 = .ok (.iaload, 1) := by decide +kernel
theorem dX9_read_158 : decode cX9_read 158 = .ok (.iload 4, 2) := by decide +kernel
theorem dX9_read_160 : decode cX9_read 160 = .ok (.ifCond .eq 7, 3) := by decide +kernel
theorem dX9_read_163 : decode cX9_read 163 = .ok (.iconst 0, 1) := by decide +kernel
theorem dX9_read_164 : decode cX9_read 164 = .ok (.goto 22, 3) := by decide +kernel
theorem dX9_read_167 : decode cX9_read 167 = .ok (.aload_n 0, 1) := by decide +kernel
theorem dX9_read_168 : decode cX9_read 168 = .ok (.getfield 24, 3) := by decide +kernel
theorem dX9_read_171 : decode cX9_read 171 = .ok (.iload_n 3, 1) := by decide +kernel
theorem dX9_read_172 : decode cX9_read 172 = .ok (.iconst 3, 1) := by decide +kernel
theorem dX9_read_173 : decode cX9_read 173 = .ok (.iadd, 1) := by decide +kernel
theorem dX9_read_174 : decode cX9_read 174 = .ok (.iaload, 1) := by decide +kernel
theorem dX9_read_175 : decode cX9_read 175 = .ok (.aload_n 0, 1) := by decide +kernel
theorem dX9_read_176 : decode cX9_read 176 = .ok (.getfield 24, 3) := by decide +kernel
theorem dX9_read_179 : decode cX9_read 179 = .ok (.iload_n 3, 1) := by decide +kernel
theorem dX9_read_180 : decode cX9_read 180 = .ok (.iconst 4, 1) := by decide +kernel
theorem dX9_read_181 : decode cX9_read 181 = .ok (.iadd, 1) := by decide +kernel
theorem dX9_read_182 : decode cX9_read 182 = .ok (.iaload, 1) := by decide +kernel
theorem dX9_read_183 : decode cX9_read 183 = .ok (.invokestatic 96, 3) := by decide +kernel
theorem dX9_read_186 : decode cX9_read 186 = .ok (.iload 4, 2) := by decide +kernel
theorem dX9_read_188 : decode cX9_read 188 = .ok (.iconst 1, 1) := by decide +kernel
theorem dX9_read_189 : decode cX9_read 189 = .ok (.invokevirtual 99, 3) := by decide +kernel
theorem dX9_read_192 : decode cX9_read 192 = .ok (.pop, 1) := by decide +kernel
theorem dX9_read_193 : decode cX9_read 193 = .ok (.iinc 2 1, 3) := by decide +kernel
theorem dX9_read_196 : decode cX9_read 196 = .ok (.iinc 3 5, 3) := by decide +kernel
theorem dX9_read_199 : decode cX9_read 199 = .ok (.goto (-101), 3) := by decide +kernel
theorem dX9_read_202 : decode cX9_read 202 = .ok (.iload_n 2, 1) := by decide +kernel
theorem dX9_read_203 : decode cX9_read 203 = .ok (.ireturn, 1) := by decide +kernel
theorem dX9_replays_0 : decode cX9_replays 0 = .ok (.iconst 0, 1) := by decide +kernel
theorem dX9_replays_1 : decode cX9_replays 1 = .ok (.istore_n 3, 1) := by decide +kernel
theorem dX9_replays_2 : decode cX9_replays 2 = .ok (.iload_n 3, 1) := by decide +kernel
theorem dX9_replays_3 : decode cX9_replays 3 = .ok (.bipush 26, 2) := by decide +kernel
theorem dX9_replays_5 : decode cX9_replays 5 = .ok (.if_icmp .ge 16, 3) := by decide +kernel
theorem dX9_replays_8 : decode cX9_replays 8 = .ok (.aload_n 0, 1) := by decide +kernel
theorem dX9_replays_9 : decode cX9_replays 9 = .ok (.getfield 27, 3) := by decide +kernel
theorem dX9_replays_12 : decode cX9_replays 12 = .ok (.iload_n 3, 1) := by decide +kernel
theorem dX9_replays_13 : decode cX9_replays 13 = .ok (.iconst (-1), 1) := by decide +kernel
theorem dX9_replays_14 : decode cX9_replays 14 = .ok (.iastore, 1) := by decide +kernel
theorem dX9_replays_15 : decode cX9_replays 15 = .ok (.iinc 3 1, 3) := by decide +kernel
theorem dX9_replays_18 : decode cX9_replays 18 = .ok (.goto (-16), 3) := by decide +kernel
theorem dX9_replays_21 : decode cX9_replays 21 = .ok (.iconst 0, 1) := by decide +kernel
theorem dX9_replays_22 : decode cX9_replays 22 = .ok (.istore_n 3, 1) := by decide +kernel
theorem dX9_replays_23 : decode cX9_replays 23 = .ok (.iload_n 3, 1) := by decide +kernel
theorem dX9_replays_24 : decode cX9_replays 24 = .ok (.sipush 200, 3) := by decide +kernel
theorem dX9_replays_27 : decode cX9_replays 27 = .ok (.if_icmp .ge 42, 3) := by decide +kernel
theorem dX9_replays_30 : decode cX9_replays 30 = .ok (.iload_n 3, 1) := by decide +kernel
theorem dX9_replays_31 : decode cX9_replays 31 = .ok (.iload_n 2, 1) := by decide +kernel
theorem dX9_replays_32 : decode cX9_replays 32 = .ok (.if_icmp .ge 37, 3) := by decide +kernel
theorem dX9_replays_35 : decode cX9_replays 35 = .ok (.aload_n 0, 1) := by decide +kernel
theorem dX9_replays_36 : decode cX9_replays 36 = .ok (.iload_n 1, 1) := by decide +kernel
theorem dX9_replays_37 : decode cX9_replays 37 = .ok (.iconst 0, 1) := by decide +kernel
theorem dX9_replays_38 : decode cX9_replays 38 = .ok (.iload_n 3, 1) := by decide +kernel
theorem dX9_replays_39 : decode cX9_replays 39 = .ok (.iadd, 1) := by decide +kernel
theorem dX9_replays_40 : decode cX9_replays 40 = .ok (.invokevirtual 59, 3) := by decide +kernel
theorem dX9_replays_43 : decode cX9_replays 43 = .ok (.iconst 1, 1) := by decide +kernel
theorem dX9_replays_44 : decode cX9_replays 44 = .ok (.if_icmp .ne 19, 3) := by decide +kernel
theorem dX9_replays_47 : decode cX9_replays 47 = .ok (.aload_n 0, 1) := by decide +kernel
theorem dX9_replays_48 : decode cX9_replays 48 = .ok (.getfield 27, 3) := by decide +kernel
theorem dX9_replays_51 : decode cX9_replays 51 = .ok (.aload_n 0, 1) := by decide +kernel
theorem dX9_replays_52 : decode cX9_replays 52 = .ok (.iload_n 1, 1) := by decide +kernel
theorem dX9_replays_53 : decode cX9_replays 53 = .ok (.sipush 200, 3) := by decide +kernel
theorem dX9_replays_56 : decode cX9_replays 56 = .ok (.iload_n 3, 1) := by decide +kernel
theorem dX9_replays_57 : decode cX9_replays 57 = .ok (.iadd, 1) := by decide +kernel
theorem dX9_replays_58 : decode cX9_replays 58 = .ok (.invokevirtual 59, 3) := by decide +kernel
theorem dX9_replays_61 : decode cX9_replays 61 = .ok (.iload_n 3, 1) := by decide +kernel
theorem dX9_replays_62 : decode cX9_replays 62 = .ok (.iastore, 1) := by decide +kernel
theorem dX9_replays_63 : decode cX9_replays 63 = .ok (.iinc 3 1, 3) := by decide +kernel
theorem dX9_replays_66 : decode cX9_replays 66 = .ok (.goto (-43), 3) := by decide +kernel
theorem dX9_replays_69 : decode cX9_replays 69 = .ok (.return_, 1) := by decide +kernel
theorem dX9_isMapped_0 : decode cX9_isMapped 0 = .ok (.aload_n 0, 1) := by decide +kernel
theorem dX9_isMapped_1 : decode cX9_isMapped 1 = .ok (.getfield 27, 3) := by decide +kernel
theorem dX9_isMapped_4 : decode cX9_isMapped 4 = .ok (.iload_n 2, 1) := by decide +kernel
theorem dX9_isMapped_5 : decode cX9_isMapped 5 = .ok (.iaload, 1) := by decide +kernel
theorem dX9_isMapped_6 : decode cX9_isMapped 6 = .ok (.ifCond .lt 25, 3) := by decide +kernel
theorem dX9_isMapped_9 : decode cX9_isMapped 9 = .ok (.aload_n 0, 1) := by decide +kernel
theorem dX9_isMapped_10 : decode cX9_isMapped 10 = .ok (.iload_n 1, 1) := by decide +kernel
theorem dX9_isMapped_11 : decode cX9_isMapped 11 = .ok (.sipush 800, 3) := by decide +kernel
theorem dX9_isMapped_14 : decode cX9_isMapped 14 = .ok (.aload_n 0, 1) := by decide +kernel
theorem dX9_isMapped_15 : decode cX9_isMapped 15 = .ok (.getfield 27, 3) := by decide +kernel
theorem dX9_isMapped_18 : decode cX9_isMapped 18 = .ok (.iload_n 2, 1) := by decide +kernel
theorem dX9_isMapped_19 : decode cX9_isMapped 19 = .ok (.iaload, 1) := by decide +kernel
theorem dX9_isMapped_20 : decode cX9_isMapped 20 = .ok (.iadd, 1) := by decide +kernel
theorem dX9_isMapped_21 : decode cX9_isMapped 21 = .ok (.invokevirtual 59, 3) := by decide +kernel
theorem dX9_isMapped_24 : decode cX9_isMapped 24 = .ok (.ifCond .ne 7, 3) := by decide +kernel
theorem dX9_isMapped_27 : decode cX9_isMapped 27 = .ok (.iconst 1, 1) := by decide +kernel
theorem dX9_isMapped_28 : decode cX9_isMapped 28 = .ok (.goto 4, 3) := by decide +kernel
theorem dX9_isMapped_31 : decode cX9_isMapped 31 = .ok (.iconst 0, 1) := by decide +kernel
theorem dX9_isMapped_32 : decode cX9_isMapped 32 = .ok (.ireturn, 1) := by decide +kernel
theorem dX9_mapped_0 : decode cX9_mapped 0 = .ok (.iconst 0, 1) := by decide +kernel
theorem dX9_mapped_1 : decode cX9_mapped 1 = .ok (.istore_n 2, 1) := by decide +kernel
theorem dX9_mapped_2 : decode cX9_mapped 2 = .ok (.iconst 0, 1) := by decide +kernel
theorem dX9_mapped_3 : decode cX9_mapped 3 = .ok (.istore_n 3, 1) := by decide +kernel
theorem dX9_mapped_4 : decode cX9_mapped 4 = .ok (.iload_n 3, 1) := by decide +kernel
theorem dX9_mapped_5 : decode cX9_mapped 5 = .ok (.bipush 26, 2) := by decide +kernel
theorem dX9_mapped_7 : decode cX9_mapped 7 = .ok (.if_icmp .ge 26, 3) := by decide +kernel
theorem dX9_mapped_10 : decode cX9_mapped 10 = .ok (.iload_n 2, 1) := by decide +kernel
theorem dX9_mapped_11 : decode cX9_mapped 11 = .ok (.aload_n 0, 1) := by decide +kernel
theorem dX9_mapped_12 : decode cX9_mapped 12 = .ok (.iload_n 1, 1) := by decide +kernel
theorem dX9_mapped_13 : decode cX9_mapped 13 = .ok (.iload_n 3, 1) := by decide +kernel
theorem dX9_mapped_14 : decode cX9_mapped 14 = .ok (.invokevirtual 146, 3) := by decide +kernel
theorem dX9_mapped_17 : decode cX9_mapped 17 = .ok (.ifCond .eq 7, 3) := by decide +kernel
theorem dX9_mapped_20 : decode cX9_mapped 20 = .ok (.iconst 1, 1) := by decide +kernel
theorem dX9_mapped_21 : decode cX9_mapped 21 = .ok (.goto 4, 3) := by decide +kernel
theorem dX9_mapped_24 : decode cX9_mapped 24 = .ok (.iconst 0, 1) := by decide +kernel
theorem dX9_mapped_25 : decode cX9_mapped 25 = .ok (.iadd, 1) := by decide +kernel
theorem dX9_mapped_26 : decode cX9_mapped 26 = .ok (.istore_n 2, 1) := by decide +kernel
theorem dX9_mapped_27 : decode cX9_mapped 27 = .ok (.iinc 3 1, 3) := by decide +kernel
theorem dX9_mapped_30 : decode cX9_mapped 30 = .ok (.goto (-26), 3) := by decide +kernel
theorem dX9_mapped_33 : decode cX9_mapped 33 = .ok (.iload_n 2, 1) := by decide +kernel
theorem dX9_mapped_34 : decode cX9_mapped 34 = .ok (.ireturn, 1) := by decide +kernel
theorem dX9_holes_0 : decode cX9_holes 0 = .ok (.iconst 0, 1) := by decide +kernel
theorem dX9_holes_1 : decode cX9_holes 1 = .ok (.istore_n 2, 1) := by decide +kernel
theorem dX9_holes_2 : decode cX9_holes 2 = .ok (.aload_n 0, 1) := by decide +kernel
theorem dX9_holes_3 : decode cX9_holes 3 = .ok (.iload_n 1, 1) := by decide +kernel
theorem dX9_holes_4 : decode cX9_holes 4 = .ok (.iconst 0, 1) := by decide +kernel
theorem dX9_holes_5 : decode cX9_holes 5 = .ok (.invokevirtual 63, 3) := by decide +kernel
theorem dX9_holes_8 : decode cX9_holes 8 = .ok (.istore_n 3, 1) := by decide +kernel
theorem dX9_holes_9 : decode cX9_holes 9 = .ok (.iload_n 3, 1) := by decide +kernel
theorem dX9_holes_10 : decode cX9_holes 10 = .ok (.aload_n 0, 1) := by decide +kernel
theorem dX9_holes_11 : decode cX9_holes 11 = .ok (.iload_n 1, 1) := by decide +kernel
theorem dX9_holes_12 : decode cX9_holes 12 = .ok (.sipush 1271, 3) := by decide +kernel
theorem dX9_holes_15 : decode cX9_holes 15 = .ok (.invokevirtual 59, 3) := by decide +kernel
theorem dX9_holes_18 : decode cX9_holes 18 = .ok (.if_icmp .ge 22, 3) := by decide +kernel
theorem dX9_holes_21 : decode cX9_holes 21 = .ok (.iload_n 2, 1) := by decide +kernel
theorem dX9_holes_22 : decode cX9_holes 22 = .ok (.iconst 1, 1) := by decide +kernel
theorem dX9_holes_23 : decode cX9_holes 23 = .ok (.aload_n 0, 1) := by decide +kernel
theorem dX9_holes_24 : decode cX9_holes 24 = .ok (.iload_n 1, 1) := by decide +kernel
theorem dX9_holes_25 : decode cX9_holes 25 = .ok (.iconst 0, 1) := by decide +kernel
theorem dX9_holes_26 : decode cX9_holes 26 = .ok (.iload_n 3, 1) := by decide +kernel
theorem dX9_holes_27 : decode cX9_holes 27 = .ok (.iadd, 1) := by decide +kernel
theorem dX9_holes_28 : decode cX9_holes 28 = .ok (.invokevirtual 59, 3) := by decide +kernel
theorem dX9_holes_31 : decode cX9_holes 31 = .ok (.isub, 1) := by decide +kernel
theorem dX9_holes_32 : decode cX9_holes 32 = .ok (.iadd, 1) := by decide +kernel
theorem dX9_holes_33 : decode cX9_holes 33 = .ok (.istore_n 2, 1) := by decide +kernel
theorem dX9_holes_34 : decode cX9_holes 34 = .ok (.iinc 3 1, 3) := by decide +kernel
theorem dX9_holes_37 : decode cX9_holes 37 = .ok (.goto (-28), 3) := by decide +kernel
theorem dX9_holes_40 : decode cX9_holes 40 = .ok (.iload_n 2, 1) := by decide +kernel
theorem dX9_holes_41 : decode cX9_holes 41 = .ok (.ireturn, 1) := by decide +kernel
theorem dX9_from_0 : decode cX9_from 0 = .ok (.iload_n 2, 1) := by decide +kernel
theorem dX9_from_1 : decode cX9_from 1 = .ok (.i2l, 1) := by decide +kernel
theorem dX9_from_2 : decode cX9_from 2 = .ok (.lstore 4, 2) := by decide +kernel
theorem dX9_from_4 : decode cX9_from 4 = .ok (.iload_n 3, 1) := by decide +kernel
theorem dX9_from_5 : decode cX9_from 5 = .ok (.ifCond .le 13, 3) := by decide +kernel
theorem dX9_from_8 : decode cX9_from 8 = .ok (.lload 4, 2) := by decide +kernel
theorem dX9_from_10 : decode cX9_from 10 = .ok (.lconst 0, 1) := by decide +kernel
theorem dX9_from_11 : decode cX9_from 11 = .ok (.lcmp, 1) := by decide +kernel
theorem dX9_from_12 : decode cX9_from 12 = .ok (.ifCond .ge 6, 3) := by decide +kernel
theorem dX9_from_15 : decode cX9_from 15 = .ok (.lconst 0, 1) := by decide +kernel
theorem dX9_from_16 : decode cX9_from 16 = .ok (.lstore 4, 2) := by decide +kernel
theorem dX9_from_18 : decode cX9_from 18 = .ok (.iload_n 3, 1) := by decide +kernel
theorem dX9_from_19 : decode cX9_from 19 = .ok (.ifCond .ge 17, 3) := by decide +kernel
theorem dX9_from_22 : decode cX9_from 22 = .ok (.lload 4, 2) := by decide +kernel
theorem dX9_from_24 : decode cX9_from 24 = .ok (.ldc2_w 149, 3) := by decide +kernel
theorem dX9_from_27 : decode cX9_from 27 = .ok (.lcmp, 1) := by decide +kernel
theorem dX9_from_28 : decode cX9_from 28 = .ok (.ifCond .le 8, 3) := by decide +kernel
theorem dX9_from_31 : decode cX9_from 31 = .ok (.ldc2_w 149, 3) := by decide +kernel
theorem dX9_from_34 : decode cX9_from 34 = .ok (.lstore 4, 2) := by decide +kernel
theorem dX9_from_36 : decode cX9_from 36 = .ok (.lload 4, 2) := by decide +kernel
theorem dX9_from_38 : decode cX9_from 38 = .ok (.lconst 0, 1) := by decide +kernel
theorem dX9_from_39 : decode cX9_from 39 = .ok (.lcmp, 1) := by decide +kernel
theorem dX9_from_40 : decode cX9_from 40 = .ok (.ifCond .lt 37, 3) := by decide +kernel
theorem dX9_from_43 : decode cX9_from 43 = .ok (.lload 4, 2) := by decide +kernel
theorem dX9_from_45 : decode cX9_from 45 = .ok (.ldc2_w 151, 3) := by decide +kernel
theorem dX9_from_48 : decode cX9_from 48 = .ok (.lcmp, 1) := by decide +kernel
theorem dX9_from_49 : decode cX9_from 49 = .ok (.ifCond .ge 28, 3) := by decide +kernel
theorem dX9_from_52 : decode cX9_from 52 = .ok (.aload_n 0, 1) := by decide +kernel
theorem dX9_from_53 : decode cX9_from 53 = .ok (.iload_n 1, 1) := by decide +kernel
theorem dX9_from_54 : decode cX9_from 54 = .ok (.lload 4, 2) := by decide +kernel
theorem dX9_from_56 : decode cX9_from 56 = .ok (.l2i, 1) := by decide +kernel
theorem dX9_from_57 : decode cX9_from 57 = .ok (.invokevirtual 153, 3) := by decide +kernel
theorem dX9_from_60 : decode cX9_from 60 = .ok (.ifCond .eq 7, 3) := by decide +kernel
theorem dX9_from_63 : decode cX9_from 63 = .ok (.lload 4, 2) := by decide +kernel
theorem dX9_from_65 : decode cX9_from 65 = .ok (.l2i, 1) := by decide +kernel
theorem dX9_from_66 : decode cX9_from 66 = .ok (.ireturn, 1) := by decide +kernel
theorem dX9_from_67 : decode cX9_from 67 = .ok (.lload 4, 2) := by decide +kernel
theorem dX9_from_69 : decode cX9_from 69 = .ok (.iload_n 3, 1) := by decide +kernel
theorem dX9_from_70 : decode cX9_from 70 = .ok (.i2l, 1) := by decide +kernel
theorem dX9_from_71 : decode cX9_from 71 = .ok (.ladd, 1) := by decide +kernel
theorem dX9_from_72 : decode cX9_from 72 = .ok (.lstore 4, 2) := by decide +kernel
theorem dX9_from_74 : decode cX9_from 74 = .ok (.goto (-38), 3) := by decide +kernel
theorem dX9_from_77 : decode cX9_from 77 = .ok (.bipush (-5), 2) := by decide +kernel
theorem dX9_from_79 : decode cX9_from 79 = .ok (.ireturn, 1) := by decide +kernel
theorem dX9_of_0 : decode cX9_of 0 = .ok (.iload_n 1, 1) := by decide +kernel
theorem dX9_of_1 : decode cX9_of 1 = .ok (.invokestatic 89, 3) := by decide +kernel
theorem dX9_of_4 : decode cX9_of 4 = .ok (.ifCond .eq 13, 3) := by decide +kernel
theorem dX9_of_7 : decode cX9_of 7 = .ok (.iload_n 2, 1) := by decide +kernel
theorem dX9_of_8 : decode cX9_of 8 = .ok (.iconst 0, 1) := by decide +kernel
theorem dX9_of_9 : decode cX9_of 9 = .ok (.bipush 10, 2) := by decide +kernel
theorem dX9_of_11 : decode cX9_of 11 = .ok (.invokestatic 55, 3) := by decide +kernel
theorem dX9_of_14 : decode cX9_of 14 = .ok (.ifCond .ne 5, 3) := by decide +kernel
theorem dX9_of_17 : decode cX9_of 17 = .ok (.iconst (-1), 1) := by decide +kernel
theorem dX9_of_18 : decode cX9_of 18 = .ok (.ireturn, 1) := by decide +kernel
theorem dX9_of_19 : decode cX9_of 19 = .ok (.iload_n 2, 1) := by decide +kernel
theorem dX9_of_20 : decode cX9_of 20 = .ok (.tableswitch 159 0 9 #[56, 62, 69, 78, 87, 97, 103, 117, 142, 151], 56) := by decide +kernel
theorem dX9_of_76 : decode cX9_of 76 = .ok (.aload_n 0, 1) := by decide +kernel
theorem dX9_of_77 : decode cX9_of 77 = .ok (.iload_n 1, 1) := by decide +kernel
theorem dX9_of_78 : decode cX9_of 78 = .ok (.invokevirtual 73, 3) := by decide +kernel
theorem dX9_of_81 : decode cX9_of 81 = .ok (.ireturn, 1) := by decide +kernel
theorem dX9_of_82 : decode cX9_of 82 = .ok (.aload_n 0, 1) := by decide +kernel
theorem dX9_of_83 : decode cX9_of 83 = .ok (.iload_n 1, 1) := by decide +kernel
theorem dX9_of_84 : decode cX9_of 84 = .ok (.iconst 0, 1) := by decide +kernel
theorem dX9_of_85 : decode cX9_of 85 = .ok (.invokevirtual 63, 3) := by decide +kernel
theorem dX9_of_88 : decode cX9_of 88 = .ok (.ireturn, 1) := by decide +kernel
theorem dX9_of_89 : decode cX9_of 89 = .ok (.aload_n 0, 1) := by decide +kernel
theorem dX9_of_90 : decode cX9_of 90 = .ok (.iload_n 1, 1) := by decide +kernel
theorem dX9_of_91 : decode cX9_of 91 = .ok (.sipush 1271, 3) := by decide +kernel
theorem dX9_of_94 : decode cX9_of 94 = .ok (.invokevirtual 59, 3) := by decide +kernel
theorem dX9_of_97 : decode cX9_of 97 = .ok (.ireturn, 1) := by decide +kernel
theorem dX9_of_98 : decode cX9_of 98 = .ok (.aload_n 0, 1) := by decide +kernel
theorem dX9_of_99 : decode cX9_of 99 = .ok (.iload_n 1, 1) := by decide +kernel
theorem dX9_of_100 : decode cX9_of 100 = .ok (.sipush 1270, 3) := by decide +kernel
theorem dX9_of_103 : decode cX9_of 103 = .ok (.invokevirtual 59, 3) := by decide +kernel
theorem dX9_of_106 : decode cX9_of 106 = .ok (.ireturn, 1) := by decide +kernel
theorem dX9_of_107 : decode cX9_of 107 = .ok (.aload_n 0, 1) := by decide +kernel
theorem dX9_of_108 : decode cX9_of 108 = .ok (.iload_n 1, 1) := by decide +kernel
theorem dX9_of_109 : decode cX9_of 109 = .ok (.iconst 0, 1) := by decide +kernel
theorem dX9_of_110 : decode cX9_of 110 = .ok (.sipush 200, 3) := by decide +kernel
theorem dX9_of_113 : decode cX9_of 113 = .ok (.invokevirtual 69, 3) := by decide +kernel
theorem dX9_of_116 : decode cX9_of 116 = .ok (.ireturn, 1) := by decide +kernel
theorem dX9_of_117 : decode cX9_of 117 = .ok (.aload_n 0, 1) := by decide +kernel
theorem dX9_of_118 : decode cX9_of 118 = .ok (.iload_n 1, 1) := by decide +kernel
theorem dX9_of_119 : decode cX9_of 119 = .ok (.invokevirtual 156, 3) := by decide +kernel
theorem dX9_of_122 : decode cX9_of 122 = .ok (.ireturn, 1) := by decide +kernel
theorem dX9_of_123 : decode cX9_of 123 = .ok (.aload_n 0, 1) := by decide +kernel
theorem dX9_of_124 : decode cX9_of 124 = .ok (.iload_n 1, 1) := by decide +kernel
theorem dX9_of_125 : decode cX9_of 125 = .ok (.sipush 200, 3) := by decide +kernel
theorem dX9_of_128 : decode cX9_of 128 = .ok (.invokevirtual 159, 3) := by decide +kernel
theorem dX9_of_131 : decode cX9_of 131 = .ok (.aload_n 0, 1) := by decide +kernel
theorem dX9_of_132 : decode cX9_of 132 = .ok (.iload_n 1, 1) := by decide +kernel
theorem dX9_of_133 : decode cX9_of 133 = .ok (.invokevirtual 162, 3) := by decide +kernel
theorem dX9_of_136 : decode cX9_of 136 = .ok (.ireturn, 1) := by decide +kernel
theorem dX9_of_137 : decode cX9_of 137 = .ok (.aload_n 0, 1) := by decide +kernel
theorem dX9_of_138 : decode cX9_of 138 = .ok (.iload_n 1, 1) := by decide +kernel
theorem dX9_of_139 : decode cX9_of 139 = .ok (.sipush 1272, 3) := by decide +kernel
theorem dX9_of_142 : decode cX9_of 142 = .ok (.invokevirtual 59, 3) := by decide +kernel
theorem dX9_of_145 : decode cX9_of 145 = .ok (.ifCond .ge 8, 3) := by decide +kernel
theorem dX9_of_148 : decode cX9_of 148 = .ok (.bipush (-5), 2) := by decide +kernel
theorem dX9_of_150 : decode cX9_of 150 = .ok (.goto 11, 3) := by decide +kernel
theorem dX9_of_153 : decode cX9_of 153 = .ok (.aload_n 0, 1) := by decide +kernel
theorem dX9_of_154 : decode cX9_of 154 = .ok (.iload_n 1, 1) := by decide +kernel
theorem dX9_of_155 : decode cX9_of 155 = .ok (.sipush 1272, 3) := by decide +kernel
theorem dX9_of_158 : decode cX9_of 158 = .ok (.invokevirtual 59, 3) := by decide +kernel
theorem dX9_of_161 : decode cX9_of 161 = .ok (.ireturn, 1) := by decide +kernel
theorem dX9_of_162 : decode cX9_of 162 = .ok (.aload_n 0, 1) := by decide +kernel
theorem dX9_of_163 : decode cX9_of 163 = .ok (.iload_n 1, 1) := by decide +kernel
theorem dX9_of_164 : decode cX9_of 164 = .ok (.sipush 1273, 3) := by decide +kernel
theorem dX9_of_167 : decode cX9_of 167 = .ok (.invokevirtual 59, 3) := by decide +kernel
theorem dX9_of_170 : decode cX9_of 170 = .ok (.ireturn, 1) := by decide +kernel
theorem dX9_of_171 : decode cX9_of 171 = .ok (.aload_n 0, 1) := by decide +kernel
theorem dX9_of_172 : decode cX9_of 172 = .ok (.iload_n 1, 1) := by decide +kernel
theorem dX9_of_173 : decode cX9_of 173 = .ok (.iconst 0, 1) := by decide +kernel
theorem dX9_of_174 : decode cX9_of 174 = .ok (.iconst 1, 1) := by decide +kernel
theorem dX9_of_175 : decode cX9_of 175 = .ok (.invokevirtual 165, 3) := by decide +kernel
theorem dX9_of_178 : decode cX9_of 178 = .ok (.ireturn, 1) := by decide +kernel
theorem dX9_of_179 : decode cX9_of 179 = .ok (.aload_n 0, 1) := by decide +kernel
theorem dX9_of_180 : decode cX9_of 180 = .ok (.iload_n 1, 1) := by decide +kernel
theorem dX9_of_181 : decode cX9_of 181 = .ok (.sipush 200, 3) := by decide +kernel
theorem dX9_of_184 : decode cX9_of 184 = .ok (.iconst (-1), 1) := by decide +kernel
theorem dX9_of_185 : decode cX9_of 185 = .ok (.invokevirtual 165, 3) := by decide +kernel
theorem dX9_of_188 : decode cX9_of 188 = .ok (.ireturn, 1) := by decide +kernel
theorem dX9_record_0 : decode cX9_record 0 = .ok (.iload_n 1, 1) := by decide +kernel
theorem dX9_record_1 : decode cX9_record 1 = .ok (.invokestatic 89, 3) := by decide +kernel
theorem dX9_record_4 : decode cX9_record 4 = .ok (.ifCond .eq 21, 3) := by decide +kernel
theorem dX9_record_7 : decode cX9_record 7 = .ok (.aload_n 0, 1) := by decide +kernel
theorem dX9_record_8 : decode cX9_record 8 = .ok (.iload_n 1, 1) := by decide +kernel
theorem dX9_record_9 : decode cX9_record 9 = .ok (.iload_n 2, 1) := by decide +kernel
theorem dX9_record_10 : decode cX9_record 10 = .ok (.invokevirtual 153, 3) := by decide +kernel
theorem dX9_record_13 : decode cX9_record 13 = .ok (.ifCond .eq 12, 3) := by decide +kernel
theorem dX9_record_16 : decode cX9_record 16 = .ok (.iload_n 3, 1) := by decide +kernel
theorem dX9_record_17 : decode cX9_record 17 = .ok (.iconst 0, 1) := by decide +kernel
theorem dX9_record_18 : decode cX9_record 18 = .ok (.iconst 5, 1) := by decide +kernel
theorem dX9_record_19 : decode cX9_record 19 = .ok (.invokestatic 55, 3) := by decide +kernel
theorem dX9_record_22 : decode cX9_record 22 = .ok (.ifCond .ne 7, 3) := by decide +kernel
theorem dX9_record_25 : decode cX9_record 25 = .ok (.ldc2_w 168, 3) := by decide +kernel
theorem dX9_record_28 : decode cX9_record 28 = .ok (.lreturn, 1) := by decide +kernel
theorem dX9_record_29 : decode cX9_record 29 = .ok (.aload_n 0, 1) := by decide +kernel
theorem dX9_record_30 : decode cX9_record 30 = .ok (.iload_n 1, 1) := by decide +kernel
theorem dX9_record_31 : decode cX9_record 31 = .ok (.sipush 800, 3) := by decide +kernel
theorem dX9_record_34 : decode cX9_record 34 = .ok (.iload_n 2, 1) := by decide +kernel
theorem dX9_record_35 : decode cX9_record 35 = .ok (.iadd, 1) := by decide +kernel
theorem dX9_record_36 : decode cX9_record 36 = .ok (.invokevirtual 59, 3) := by decide +kernel
theorem dX9_record_39 : decode cX9_record 39 = .ok (.iconst 1, 1) := by decide +kernel
theorem dX9_record_40 : decode cX9_record 40 = .ok (.if_icmp .ne 7, 3) := by decide +kernel
theorem dX9_record_43 : decode cX9_record 43 = .ok (.iconst 1, 1) := by decide +kernel
theorem dX9_record_44 : decode cX9_record 44 = .ok (.goto 4, 3) := by decide +kernel
theorem dX9_record_47 : decode cX9_record 47 = .ok (.iconst 0, 1) := by decide +kernel
theorem dX9_record_48 : decode cX9_record 48 = .ok (.istore 4, 2) := by decide +kernel
theorem dX9_record_50 : decode cX9_record 50 = .ok (.iload_n 3, 1) := by decide +kernel
theorem dX9_record_51 : decode cX9_record 51 = .ok (.tableswitch 103 0 4 #[33, 45, 57, 69, 80], 33) := by decide +kernel
theorem dX9_record_84 : decode cX9_record 84 = .ok (.aload_n 0, 1) := by decide +kernel
theorem dX9_record_85 : decode cX9_record 85 = .ok (.iload_n 1, 1) := by decide +kernel
theorem dX9_record_86 : decode cX9_record 86 = .ok (.sipush 200, 3) := by decide +kernel
theorem dX9_record_89 : decode cX9_record 89 = .ok (.iload_n 2, 1) := by decide +kernel
theorem dX9_record_90 : decode cX9_record 90 = .ok (.iadd, 1) := by decide +kernel
theorem dX9_record_91 : decode cX9_record 91 = .ok (.invokevirtual 59, 3) := by decide +kernel
theorem dX9_record_94 : decode cX9_record 94 = .ok (.i2l, 1) := by decide +kernel
theorem dX9_record_95 : decode cX9_record 95 = .ok (.lreturn, 1) := by decide +kernel
theorem dX9_record_96 : decode cX9_record 96 = .ok (.aload_n 0, 1) := by decide +kernel
theorem dX9_record_97 : decode cX9_record 97 = .ok (.iload_n 1, 1) := by decide +kernel
theorem dX9_record_98 : decode cX9_record 98 = .ok (.sipush 400, 3) := by decide +kernel
theorem dX9_record_101 : decode cX9_record 101 = .ok (.iload_n 2, 1) := by decide +kernel
theorem dX9_record_102 : decode cX9_record 102 = .ok (.iadd, 1) := by decide +kernel
theorem dX9_record_103 : decode cX9_record 103 = .ok (.invokevirtual 59, 3) := by decide +kernel
theorem dX9_record_106 : decode cX9_record 106 = .ok (.i2l, 1) := by decide +kernel
theorem dX9_record_107 : decode cX9_record 107 = .ok (.lreturn, 1) := by decide +kernel
theorem dX9_record_108 : decode cX9_record 108 = .ok (.aload_n 0, 1) := by decide +kernel
theorem dX9_record_109 : decode cX9_record 109 = .ok (.iload_n 1, 1) := by decide +kernel
theorem dX9_record_110 : decode cX9_record 110 = .ok (.sipush 600, 3) := by decide +kernel
theorem dX9_record_113 : decode cX9_record 113 = .ok (.iload_n 2, 1) := by decide +kernel
theorem dX9_record_114 : decode cX9_record 114 = .ok (.iadd, 1) := by decide +kernel
theorem dX9_record_115 : decode cX9_record 115 = .ok (.invokevirtual 59, 3) := by decide +kernel
theorem dX9_record_118 : decode cX9_record 118 = .ok (.i2l, 1) := by decide +kernel
theorem dX9_record_119 : decode cX9_record 119 = .ok (.lreturn, 1) := by decide +kernel
theorem dX9_record_120 : decode cX9_record 120 = .ok (.iload 4, 2) := by decide +kernel
theorem dX9_record_122 : decode cX9_record 122 = .ok (.ifCond .eq 7, 3) := by decide +kernel
theorem dX9_record_125 : decode cX9_record 125 = .ok (.lconst 1, 1) := by decide +kernel
theorem dX9_record_126 : decode cX9_record 126 = .ok (.goto 4, 3) := by decide +kernel
theorem dX9_record_129 : decode cX9_record 129 = .ok (.lconst 0, 1) := by decide +kernel
theorem dX9_record_130 : decode cX9_record 130 = .ok (.lreturn, 1) := by decide +kernel
theorem dX9_record_131 : decode cX9_record 131 = .ok (.iload 4, 2) := by decide +kernel
theorem dX9_record_133 : decode cX9_record 133 = .ok (.ifCond .eq 9, 3) := by decide +kernel
theorem dX9_record_136 : decode cX9_record 136 = .ok (.ldc2_w 168, 3) := by decide +kernel
theorem dX9_record_139 : decode cX9_record 139 = .ok (.goto 14, 3) := by decide +kernel
theorem dX9_record_142 : decode cX9_record 142 = .ok (.aload_n 0, 1) := by decide +kernel
theorem dX9_record_143 : decode cX9_record 143 = .ok (.iload_n 1, 1) := by decide +kernel
theorem dX9_record_144 : decode cX9_record 144 = .ok (.sipush 1000, 3) := by decide +kernel
theorem dX9_record_147 : decode cX9_record 147 = .ok (.iload_n 2, 1) := by decide +kernel
theorem dX9_record_148 : decode cX9_record 148 = .ok (.iadd, 1) := by decide +kernel
theorem dX9_record_149 : decode cX9_record 149 = .ok (.invokevirtual 59, 3) := by decide +kernel
theorem dX9_record_152 : decode cX9_record 152 = .ok (.i2l, 1) := by decide +kernel
theorem dX9_record_153 : decode cX9_record 153 = .ok (.lreturn, 1) := by decide +kernel
theorem dX9_record_154 : decode cX9_record 154 = .ok (.aload_n 0, 1) := by decide +kernel
theorem dX9_record_155 : decode cX9_record 155 = .ok (.iload_n 1, 1) := by decide +kernel
theorem dX9_record_156 : decode cX9_record 156 = .ok (.iload_n 2, 1) := by decide +kernel
theorem dX9_record_157 : decode cX9_record 157 = .ok (.invokevirtual 170, 3) := by decide +kernel
theorem dX9_record_160 : decode cX9_record 160 = .ok (.i2l, 1) := by decide +kernel
theorem dX9_record_161 : decode cX9_record 161 = .ok (.lreturn, 1) := by decide +kernel
theorem dX9_segment_0 : decode cX9_segment 0 = .ok (.iload_n 1, 1) := by decide +kernel
theorem dX9_segment_1 : decode cX9_segment 1 = .ok (.invokestatic 89, 3) := by decide +kernel
theorem dX9_segment_4 : decode cX9_segment 4 = .ok (.ifCond .eq 30, 3) := by decide +kernel
theorem dX9_segment_7 : decode cX9_segment 7 = .ok (.iload_n 2, 1) := by decide +kernel
theorem dX9_segment_8 : decode cX9_segment 8 = .ok (.iconst 0, 1) := by decide +kernel
theorem dX9_segment_9 : decode cX9_segment 9 = .ok (.aload_n 0, 1) := by decide +kernel
theorem dX9_segment_10 : decode cX9_segment 10 = .ok (.iload_n 1, 1) := by decide +kernel
theorem dX9_segment_11 : decode cX9_segment 11 = .ok (.sipush 1270, 3) := by decide +kernel
theorem dX9_segment_14 : decode cX9_segment 14 = .ok (.invokevirtual 59, 3) := by decide +kernel
theorem dX9_segment_17 : decode cX9_segment 17 = .ok (.iconst 1, 1) := by decide +kernel
theorem dX9_segment_18 : decode cX9_segment 18 = .ok (.isub, 1) := by decide +kernel
theorem dX9_segment_19 : decode cX9_segment 19 = .ok (.invokestatic 55, 3) := by decide +kernel
theorem dX9_segment_22 : decode cX9_segment 22 = .ok (.ifCond .eq 12, 3) := by decide +kernel
theorem dX9_segment_25 : decode cX9_segment 25 = .ok (.iload_n 3, 1) := by decide +kernel
theorem dX9_segment_26 : decode cX9_segment 26 = .ok (.iconst 0, 1) := by decide +kernel
theorem dX9_segment_27 : decode cX9_segment 27 = .ok (.iconst 3, 1) := by decide +kernel
theorem dX9_segment_28 : decode cX9_segment 28 = .ok (.invokestatic 55, 3) := by decide +kernel
theorem dX9_segment_31 : decode cX9_segment 31 = .ok (.ifCond .ne 5, 3) := by decide +kernel
theorem dX9_segment_34 : decode cX9_segment 34 = .ok (.iconst (-1), 1) := by decide +kernel
theorem dX9_segment_35 : decode cX9_segment 35 = .ok (.ireturn, 1) := by decide +kernel
theorem dX9_segment_36 : decode cX9_segment 36 = .ok (.iload_n 3, 1) := by decide +kernel
theorem dX9_segment_37 : decode cX9_segment 37 = .ok (.ifCond .ne 12, 3) := by decide +kernel
theorem dX9_segment_40 : decode cX9_segment 40 = .ok (.aload_n 0, 1) := by decide +kernel
theorem dX9_segment_41 : decode cX9_segment 41 = .ok (.iload_n 1, 1) := by decide +kernel
theorem dX9_segment_42 : decode cX9_segment 42 = .ok (.iload_n 2, 1) := by decide +kernel
theorem dX9_segment_43 : decode cX9_segment 43 = .ok (.invokevirtual 63, 3) := by decide +kernel
theorem dX9_segment_46 : decode cX9_segment 46 = .ok (.goto 50, 3) := by decide +kernel
theorem dX9_segment_49 : decode cX9_segment 49 = .ok (.iload_n 3, 1) := by decide +kernel
theorem dX9_segment_50 : decode cX9_segment 50 = .ok (.iconst 1, 1) := by decide +kernel
theorem dX9_segment_51 : decode cX9_segment 51 = .ok (.if_icmp .ne 12, 3) := by decide +kernel
theorem dX9_segment_54 : decode cX9_segment 54 = .ok (.aload_n 0, 1) := by decide +kernel
theorem dX9_segment_55 : decode cX9_segment 55 = .ok (.iload_n 1, 1) := by decide +kernel
theorem dX9_segment_56 : decode cX9_segment 56 = .ok (.iload_n 2, 1) := by decide +kernel
theorem dX9_segment_57 : decode cX9_segment 57 = .ok (.invokevirtual 77, 3) := by decide +kernel
theorem dX9_segment_60 : decode cX9_segment 60 = .ok (.goto 36, 3) := by decide +kernel
theorem dX9_segment_63 : decode cX9_segment 63 = .ok (.iload_n 3, 1) := by decide +kernel
theorem dX9_segment_64 : decode cX9_segment 64 = .ok (.iconst 2, 1) := by decide +kernel
theorem dX9_segment_65 : decode cX9_segment 65 = .ok (.if_icmp .ne 12, 3) := by decide +kernel
theorem dX9_segment_68 : decode cX9_segment 68 = .ok (.aload_n 0, 1) := by decide +kernel
theorem dX9_segment_69 : decode cX9_segment 69 = .ok (.iload_n 1, 1) := by decide +kernel
theorem dX9_segment_70 : decode cX9_segment 70 = .ok (.iload_n 2, 1) := by decide +kernel
theorem dX9_segment_71 : decode cX9_segment 71 = .ok (.invokevirtual 80, 3) := by decide +kernel
theorem dX9_segment_74 : decode cX9_segment 74 = .ok (.goto 22, 3) := by decide +kernel
theorem dX9_segment_77 : decode cX9_segment 77 = .ok (.iload_n 2, 1) := by decide +kernel
theorem dX9_segment_78 : decode cX9_segment 78 = .ok (.iconst 1, 1) := by decide +kernel
theorem dX9_segment_79 : decode cX9_segment 79 = .ok (.iadd, 1) := by decide +kernel
theorem dX9_segment_80 : decode cX9_segment 80 = .ok (.aload_n 0, 1) := by decide +kernel
theorem dX9_segment_81 : decode cX9_segment 81 = .ok (.iload_n 1, 1) := by decide +kernel
theorem dX9_segment_82 : decode cX9_segment 82 = .ok (.sipush 1270, 3) := by decide +kernel
theorem dX9_segment_85 : decode cX9_segment 85 = .ok (.invokevirtual 59, 3) := by decide +kernel
theorem dX9_segment_88 : decode cX9_segment 88 = .ok (.if_icmp .ge 7, 3) := by decide +kernel
theorem dX9_segment_91 : decode cX9_segment 91 = .ok (.iconst 1, 1) := by decide +kernel
theorem dX9_segment_92 : decode cX9_segment 92 = .ok (.goto 4, 3) := by decide +kernel
theorem dX9_segment_95 : decode cX9_segment 95 = .ok (.iconst 0, 1) := by decide +kernel
theorem dX9_segment_96 : decode cX9_segment 96 = .ok (.ireturn, 1) := by decide +kernel
theorem dX9_valueIn_0 : decode cX9_valueIn 0 = .ok (.aload_n 0, 1) := by decide +kernel
theorem dX9_valueIn_1 : decode cX9_valueIn 1 = .ok (.iload_n 1, 1) := by decide +kernel
theorem dX9_valueIn_2 : decode cX9_valueIn 2 = .ok (.iload_n 2, 1) := by decide +kernel
theorem dX9_valueIn_3 : decode cX9_valueIn 3 = .ok (.invokevirtual 159, 3) := by decide +kernel
theorem dX9_valueIn_6 : decode cX9_valueIn 6 = .ok (.aload_n 0, 1) := by decide +kernel
theorem dX9_valueIn_7 : decode cX9_valueIn 7 = .ok (.iload_n 1, 1) := by decide +kernel
theorem dX9_valueIn_8 : decode cX9_valueIn 8 = .ok (.iload_n 3, 1) := by decide +kernel
theorem dX9_valueIn_9 : decode cX9_valueIn 9 = .ok (.invokevirtual 146, 3) := by decide +kernel
theorem dX9_valueIn_12 : decode cX9_valueIn 12 = .ok (.ifCond .eq 22, 3) := by decide +kernel
theorem dX9_valueIn_15 : decode cX9_valueIn 15 = .ok (.aload_n 0, 1) := by decide +kernel
theorem dX9_valueIn_16 : decode cX9_valueIn 16 = .ok (.iload_n 1, 1) := by decide +kernel
theorem dX9_valueIn_17 : decode cX9_valueIn 17 = .ok (.sipush 1000, 3) := by decide +kernel
theorem dX9_valueIn_20 : decode cX9_valueIn 20 = .ok (.aload_n 0, 1) := by decide +kernel
theorem dX9_valueIn_21 : decode cX9_valueIn 21 = .ok (.getfield 27, 3) := by decide +kernel
theorem dX9_valueIn_24 : decode cX9_valueIn 24 = .ok (.iload_n 3, 1) := by decide +kernel
theorem dX9_valueIn_25 : decode cX9_valueIn 25 = .ok (.iaload, 1) := by decide +kernel
theorem dX9_valueIn_26 : decode cX9_valueIn 26 = .ok (.iadd, 1) := by decide +kernel
theorem dX9_valueIn_27 : decode cX9_valueIn 27 = .ok (.invokevirtual 59, 3) := by decide +kernel
theorem dX9_valueIn_30 : decode cX9_valueIn 30 = .ok (.i2l, 1) := by decide +kernel
theorem dX9_valueIn_31 : decode cX9_valueIn 31 = .ok (.goto 6, 3) := by decide +kernel
theorem dX9_valueIn_34 : decode cX9_valueIn 34 = .ok (.ldc2_w 168, 3) := by decide +kernel
theorem dX9_valueIn_37 : decode cX9_valueIn 37 = .ok (.lreturn, 1) := by decide +kernel
theorem dX9_value_0 : decode cX9_value 0 = .ok (.iload_n 1, 1) := by decide +kernel
theorem dX9_value_1 : decode cX9_value 1 = .ok (.invokestatic 89, 3) := by decide +kernel
theorem dX9_value_4 : decode cX9_value 4 = .ok (.ifCond .eq 25, 3) := by decide +kernel
theorem dX9_value_7 : decode cX9_value 7 = .ok (.iload_n 2, 1) := by decide +kernel
theorem dX9_value_8 : decode cX9_value 8 = .ok (.iconst 0, 1) := by decide +kernel
theorem dX9_value_9 : decode cX9_value 9 = .ok (.bipush 25, 2) := by decide +kernel
theorem dX9_value_11 : decode cX9_value 11 = .ok (.invokestatic 55, 3) := by decide +kernel
theorem dX9_value_14 : decode cX9_value 14 = .ok (.ifCond .eq 15, 3) := by decide +kernel
theorem dX9_value_17 : decode cX9_value 17 = .ok (.aload_n 0, 1) := by decide +kernel
theorem dX9_value_18 : decode cX9_value 18 = .ok (.iload_n 1, 1) := by decide +kernel
theorem dX9_value_19 : decode cX9_value 19 = .ok (.sipush 200, 3) := by decide +kernel
theorem dX9_value_22 : decode cX9_value 22 = .ok (.iload_n 2, 1) := by decide +kernel
theorem dX9_value_23 : decode cX9_value 23 = .ok (.invokevirtual 173, 3) := by decide +kernel
theorem dX9_value_26 : decode cX9_value 26 = .ok (.goto 6, 3) := by decide +kernel
theorem dX9_value_29 : decode cX9_value 29 = .ok (.ldc2_w 168, 3) := by decide +kernel
theorem dX9_value_32 : decode cX9_value 32 = .ok (.lreturn, 1) := by decide +kernel
theorem dX9_valueAt_0 : decode cX9_valueAt 0 = .ok (.aload_n 0, 1) := by decide +kernel
theorem dX9_valueAt_1 : decode cX9_valueAt 1 = .ok (.iload_n 1, 1) := by decide +kernel
theorem dX9_valueAt_2 : decode cX9_valueAt 2 = .ok (.sipush 1000, 3) := by decide +kernel
theorem dX9_valueAt_5 : decode cX9_valueAt 5 = .ok (.aload_n 0, 1) := by decide +kernel
theorem dX9_valueAt_6 : decode cX9_valueAt 6 = .ok (.getfield 27, 3) := by decide +kernel
theorem dX9_valueAt_9 : decode cX9_valueAt 9 = .ok (.iload_n 2, 1) := by decide +kernel
theorem dX9_valueAt_10 : decode cX9_valueAt 10 = .ok (.iaload, 1) := by decide +kernel
theorem dX9_valueAt_11 : decode cX9_valueAt 11 = .ok (.iadd, 1) := by decide +kernel
theorem dX9_valueAt_12 : decode cX9_valueAt 12 = .ok (.invokevirtual 59, 3) := by decide +kernel
theorem dX9_valueAt_15 : decode cX9_valueAt 15 = .ok (.invokestatic 177, 3) := by decide +kernel
theorem dX9_valueAt_18 : decode cX9_valueAt 18 = .ok (.freturn, 1) := by decide +kernel
theorem dX9_map_0 : decode cX9_map 0 = .ok (.iload_n 1, 1) := by decide +kernel
theorem dX9_map_1 : decode cX9_map 1 = .ok (.invokestatic 89, 3) := by decide +kernel
theorem dX9_map_4 : decode cX9_map 4 = .ok (.ifCond .eq 12, 3) := by decide +kernel
theorem dX9_map_7 : decode cX9_map 7 = .ok (.iload_n 2, 1) := by decide +kernel
theorem dX9_map_8 : decode cX9_map 8 = .ok (.iconst 0, 1) := by decide +kernel
theorem dX9_map_9 : decode cX9_map 9 = .ok (.iconst 4, 1) := by decide +kernel
theorem dX9_map_10 : decode cX9_map 10 = .ok (.invokestatic 55, 3) := by decide +kernel
theorem dX9_map_13 : decode cX9_map 13 = .ok (.ifCond .ne 7, 3) := by decide +kernel
theorem dX9_map_16 : decode cX9_map 16 = .ok (.ldc2_w 168, 3) := by decide +kernel
theorem dX9_map_19 : decode cX9_map 19 = .ok (.lreturn, 1) := by decide +kernel
theorem dX9_map_20 : decode cX9_map 20 = .ok (.aload_n 0, 1) := by decide +kernel
theorem dX9_map_21 : decode cX9_map 21 = .ok (.iload_n 1, 1) := by decide +kernel
theorem dX9_map_22 : decode cX9_map 22 = .ok (.sipush 200, 3) := by decide +kernel
theorem dX9_map_25 : decode cX9_map 25 = .ok (.invokevirtual 159, 3) := by decide +kernel
theorem dX9_map_28 : decode cX9_map 28 = .ok (.aload_n 0, 1) := by decide +kernel
theorem dX9_map_29 : decode cX9_map 29 = .ok (.iload_n 1, 1) := by decide +kernel
theorem dX9_map_30 : decode cX9_map 30 = .ok (.invokevirtual 162, 3) := by decide +kernel
theorem dX9_map_33 : decode cX9_map 33 = .ok (.istore_n 3, 1) := by decide +kernel
theorem dX9_map_34 : decode cX9_map 34 = .ok (.iload_n 2, 1) := by decide +kernel
theorem dX9_map_35 : decode cX9_map 35 = .ok (.ifCond .ne 6, 3) := by decide +kernel
theorem dX9_map_38 : decode cX9_map 38 = .ok (.iload_n 3, 1) := by decide +kernel
theorem dX9_map_39 : decode cX9_map 39 = .ok (.i2l, 1) := by decide +kernel
theorem dX9_map_40 : decode cX9_map 40 = .ok (.lreturn, 1) := by decide +kernel
theorem dX9_map_41 : decode cX9_map 41 = .ok (.iload_n 3, 1) := by decide +kernel
theorem dX9_map_42 : decode cX9_map 42 = .ok (.ifCond .ne 12, 3) := by decide +kernel
theorem dX9_map_45 : decode cX9_map 45 = .ok (.iload_n 2, 1) := by decide +kernel
theorem dX9_map_46 : decode cX9_map 46 = .ok (.iconst 1, 1) := by decide +kernel
theorem dX9_map_47 : decode cX9_map 47 = .ok (.if_icmp .le 7, 3) := by decide +kernel
theorem dX9_map_50 : decode cX9_map 50 = .ok (.ldc2_w 168, 3) := by decide +kernel
theorem dX9_map_53 : decode cX9_map 53 = .ok (.lreturn, 1) := by decide +kernel
theorem dX9_map_54 : decode cX9_map 54 = .ok (.fconst 0, 1) := by decide +kernel
theorem dX9_map_55 : decode cX9_map 55 = .ok (.fstore 4, 2) := by decide +kernel
theorem dX9_map_57 : decode cX9_map 57 = .ok (.dconst 0, 1) := by decide +kernel
theorem dX9_map_58 : decode cX9_map 58 = .ok (.dstore 5, 2) := by decide +kernel
theorem dX9_map_60 : decode cX9_map 60 = .ok (.fconst 0, 1) := by decide +kernel
theorem dX9_map_61 : decode cX9_map 61 = .ok (.fstore 7, 2) := by decide +kernel
theorem dX9_map_63 : decode cX9_map 63 = .ok (.iconst 0, 1) := by decide +kernel
theorem dX9_map_64 : decode cX9_map 64 = .ok (.istore 8, 2) := by decide +kernel
theorem dX9_map_66 : decode cX9_map 66 = .ok (.iconst 0, 1) := by decide +kernel
theorem dX9_map_67 : decode cX9_map 67 = .ok (.istore 9, 2) := by decide +kernel
theorem dX9_map_69 : decode cX9_map 69 = .ok (.iload 9, 2) := by decide +kernel
theorem dX9_map_71 : decode cX9_map 71 = .ok (.bipush 26, 2) := by decide +kernel
theorem dX9_map_73 : decode cX9_map 73 = .ok (.if_icmp .ge 87, 3) := by decide +kernel
theorem dX9_map_76 : decode cX9_map 76 = .ok (.aload_n 0, 1) := by decide +kernel
theorem dX9_map_77 : decode cX9_map 77 = .ok (.iload_n 1, 1) := by decide +kernel
theorem dX9_map_78 : decode cX9_map 78 = .ok (.iload 9, 2) := by decide +kernel
theorem dX9_map_80 : decode cX9_map 80 = .ok (.invokevirtual 146, 3) := by decide +kernel
theorem dX9_map_83 : decode cX9_map 83 = .ok (.ifCond .eq 71, 3) := by decide +kernel
theorem dX9_map_86 : decode cX9_map 86 = .ok (.aload_n 0, 1) := by decide +kernel
theorem dX9_map_87 : decode cX9_map 87 = .ok (.iload_n 1, 1) := by decide +kernel
theorem dX9_map_88 : decode cX9_map 88 = .ok (.iload 9, 2) := by decide +kernel
theorem dX9_map_90 : decode cX9_map 90 = .ok (.invokevirtual 181, 3) := by decide +kernel
theorem dX9_map_93 : decode cX9_map 93 = .ok (.fstore 10, 2) := by decide +kernel
theorem dX9_map_95 : decode cX9_map 95 = .ok (.fload 4, 2) := by decide +kernel
theorem dX9_map_97 : decode cX9_map 97 = .ok (.fload 10, 2) := by decide +kernel
theorem dX9_map_99 : decode cX9_map 99 = .ok (.fadd, 1) := by decide +kernel
theorem dX9_map_100 : decode cX9_map 100 = .ok (.fstore 4, 2) := by decide +kernel
theorem dX9_map_102 : decode cX9_map 102 = .ok (.dload 5, 2) := by decide +kernel
theorem dX9_map_104 : decode cX9_map 104 = .ok (.fload 10, 2) := by decide +kernel
theorem dX9_map_106 : decode cX9_map 106 = .ok (.f2d, 1) := by decide +kernel
theorem dX9_map_107 : decode cX9_map 107 = .ok (.dadd, 1) := by decide +kernel
theorem dX9_map_108 : decode cX9_map 108 = .ok (.dstore 5, 2) := by decide +kernel
theorem dX9_map_110 : decode cX9_map 110 = .ok (.fload 10, 2) := by decide +kernel
theorem dX9_map_112 : decode cX9_map 112 = .ok (.fload 7, 2) := by decide +kernel
theorem dX9_map_114 : decode cX9_map 114 = .ok (.invokestatic 185, 3) := by decide +kernel
theorem dX9_map_117 : decode cX9_map 117 = .ok (.istore 11, 2) := by decide +kernel
theorem dX9_map_119 : decode cX9_map 119 = .ok (.iload 8, 2) := by decide +kernel
theorem dX9_map_121 : decode cX9_map 121 = .ok (.ifCond .eq 21, 3) := by decide +kernel
theorem dX9_map_124 : decode cX9_map 124 = .ok (.iload_n 2, 1) := by decide +kernel
theorem dX9_map_125 : decode cX9_map 125 = .ok (.iconst 2, 1) := by decide +kernel
theorem dX9_map_126 : decode cX9_map 126 = .ok (.if_icmp .ne 11, 3) := by decide +kernel
theorem dX9_map_129 : decode cX9_map 129 = .ok (.iload 11, 2) := by decide +kernel
theorem dX9_map_131 : decode cX9_map 131 = .ok (.ifCond .ge 16, 3) := by decide +kernel
theorem dX9_map_134 : decode cX9_map 134 = .ok (.goto 8, 3) := by decide +kernel
theorem dX9_map_137 : decode cX9_map 137 = .ok (.iload 11, 2) := by decide +kernel
theorem dX9_map_139 : decode cX9_map 139 = .ok (.ifCond .le 8, 3) := by decide +kernel
theorem dX9_map_142 : decode cX9_map 142 = .ok (.fload 10, 2) := by decide +kernel
theorem dX9_map_144 : decode cX9_map 144 = .ok (.goto 5, 3) := by decide +kernel
theorem dX9_map_147 : decode cX9_map 147 = .ok (.fload 7, 2) := by decide +kernel
theorem dX9_map_149 : decode cX9_map 149 = .ok (.fstore 7, 2) := by decide +kernel
theorem dX9_map_151 : decode cX9_map 151 = .ok (.iconst 1, 1) := by decide +kernel
theorem dX9_map_152 : decode cX9_map 152 = .ok (.istore 8, 2) := by decide +kernel
theorem dX9_map_154 : decode cX9_map 154 = .ok (.iinc 9 1, 3) := by decide +kernel
theorem dX9_map_157 : decode cX9_map 157 = .ok (.goto (-88), 3) := by decide +kernel
theorem dX9_map_160 : decode cX9_map 160 = .ok (.iload_n 2, 1) := by decide +kernel
theorem dX9_map_161 : decode cX9_map 161 = .ok (.iconst 1, 1) := by decide +kernel
theorem dX9_map_162 : decode cX9_map 162 = .ok (.if_icmp .ne 12, 3) := by decide +kernel
theorem dX9_map_165 : decode cX9_map 165 = .ok (.fload 4, 2) := by decide +kernel
theorem dX9_map_167 : decode cX9_map 167 = .ok (.invokestatic 83, 3) := by decide +kernel
theorem dX9_map_170 : decode cX9_map 170 = .ok (.i2l, 1) := by decide +kernel
theorem dX9_map_171 : decode cX9_map 171 = .ok (.goto 25, 3) := by decide +kernel
theorem dX9_map_174 : decode cX9_map 174 = .ok (.iload_n 2, 1) := by decide +kernel
theorem dX9_map_175 : decode cX9_map 175 = .ok (.iconst 4, 1) := by decide +kernel
theorem dX9_map_176 : decode cX9_map 176 = .ok (.if_icmp .ne 14, 3) := by decide +kernel
theorem dX9_map_179 : decode cX9_map 179 = .ok (.dload 5, 2) := by decide +kernel
theorem dX9_map_181 : decode cX9_map 181 = .ok (.iload_n 3, 1) := by decide +kernel
theorem dX9_map_182 : decode cX9_map 182 = .ok (.i2d, 1) := by decide +kernel
theorem dX9_map_183 : decode cX9_map 183 = .ok (.ddiv, 1) := by decide +kernel
theorem dX9_map_184 : decode cX9_map 184 = .ok (.invokestatic 189, 3) := by decide +kernel
theorem dX9_map_187 : decode cX9_map 187 = .ok (.goto 9, 3) := by decide +kernel
theorem dX9_map_190 : decode cX9_map 190 = .ok (.fload 7, 2) := by decide +kernel
theorem dX9_map_192 : decode cX9_map 192 = .ok (.invokestatic 83, 3) := by decide +kernel
theorem dX9_map_195 : decode cX9_map 195 = .ok (.i2l, 1) := by decide +kernel
theorem dX9_map_196 : decode cX9_map 196 = .ok (.lreturn, 1) := by decide +kernel
theorem dX9_replay_0 : decode cX9_replay 0 = .ok (.iload_n 1, 1) := by decide +kernel
theorem dX9_replay_1 : decode cX9_replay 1 = .ok (.invokestatic 89, 3) := by decide +kernel
theorem dX9_replay_4 : decode cX9_replay 4 = .ok (.ifCond .eq 17, 3) := by decide +kernel
theorem dX9_replay_7 : decode cX9_replay 7 = .ok (.iload_n 3, 1) := by decide +kernel
theorem dX9_replay_8 : decode cX9_replay 8 = .ok (.iconst (-1), 1) := by decide +kernel
theorem dX9_replay_9 : decode cX9_replay 9 = .ok (.bipush 25, 2) := by decide +kernel
theorem dX9_replay_11 : decode cX9_replay 11 = .ok (.invokestatic 55, 3) := by decide +kernel
theorem dX9_replay_14 : decode cX9_replay 14 = .ok (.ifCond .eq 7, 3) := by decide +kernel
theorem dX9_replay_17 : decode cX9_replay 17 = .ok (.iload_n 2, 1) := by decide +kernel
theorem dX9_replay_18 : decode cX9_replay 18 = .ok (.ifCond .ge 7, 3) := by decide +kernel
theorem dX9_replay_21 : decode cX9_replay 21 = .ok (.ldc2_w 168, 3) := by decide +kernel
theorem dX9_replay_24 : decode cX9_replay 24 = .ok (.lreturn, 1) := by decide +kernel
theorem dX9_replay_25 : decode cX9_replay 25 = .ok (.iload_n 3, 1) := by decide +kernel
theorem dX9_replay_26 : decode cX9_replay 26 = .ok (.ifCond .lt 11, 3) := by decide +kernel
theorem dX9_replay_29 : decode cX9_replay 29 = .ok (.aload_n 0, 1) := by decide +kernel
theorem dX9_replay_30 : decode cX9_replay 30 = .ok (.iload_n 1, 1) := by decide +kernel
theorem dX9_replay_31 : decode cX9_replay 31 = .ok (.iload_n 2, 1) := by decide +kernel
theorem dX9_replay_32 : decode cX9_replay 32 = .ok (.iload_n 3, 1) := by decide +kernel
theorem dX9_replay_33 : decode cX9_replay 33 = .ok (.invokevirtual 173, 3) := by decide +kernel
theorem dX9_replay_36 : decode cX9_replay 36 = .ok (.lreturn, 1) := by decide +kernel
theorem dX9_replay_37 : decode cX9_replay 37 = .ok (.aload_n 0, 1) := by decide +kernel
theorem dX9_replay_38 : decode cX9_replay 38 = .ok (.iload_n 1, 1) := by decide +kernel
theorem dX9_replay_39 : decode cX9_replay 39 = .ok (.iload_n 2, 1) := by decide +kernel
theorem dX9_replay_40 : decode cX9_replay 40 = .ok (.invokevirtual 159, 3) := by decide +kernel
theorem dX9_replay_43 : decode cX9_replay 43 = .ok (.aload_n 0, 1) := by decide +kernel
theorem dX9_replay_44 : decode cX9_replay 44 = .ok (.iload_n 1, 1) := by decide +kernel
theorem dX9_replay_45 : decode cX9_replay 45 = .ok (.invokevirtual 162, 3) := by decide +kernel
theorem dX9_replay_48 : decode cX9_replay 48 = .ok (.i2l, 1) := by decide +kernel
theorem dX9_replay_49 : decode cX9_replay 49 = .ok (.lreturn, 1) := by decide +kernel
theorem dX9_near_0 : decode cX9_near 0 = .ok (.iload_n 1, 1) := by decide +kernel
theorem dX9_near_1 : decode cX9_near 1 = .ok (.invokestatic 89, 3) := by decide +kernel
theorem dX9_near_4 : decode cX9_near 4 = .ok (.ifCond .eq 30, 3) := by decide +kernel
theorem dX9_near_7 : decode cX9_near 7 = .ok (.iload_n 3, 1) := by decide +kernel
theorem dX9_near_8 : decode cX9_near 8 = .ok (.iconst 0, 1) := by decide +kernel
theorem dX9_near_9 : decode cX9_near 9 = .ok (.iconst 1, 1) := by decide +kernel
theorem dX9_near_10 : decode cX9_near 10 = .ok (.invokestatic 55, 3) := by decide +kernel
theorem dX9_near_13 : decode cX9_near 13 = .ok (.ifCond .eq 21, 3) := by decide +kernel
theorem dX9_near_16 : decode cX9_near 16 = .ok (.aload_n 0, 1) := by decide +kernel
theorem dX9_near_17 : decode cX9_near 17 = .ok (.iload_n 1, 1) := by decide +kernel
theorem dX9_near_18 : decode cX9_near 18 = .ok (.iload_n 2, 1) := by decide +kernel
theorem dX9_near_19 : decode cX9_near 19 = .ok (.iload_n 3, 1) := by decide +kernel
theorem dX9_near_20 : decode cX9_near 20 = .ok (.ifCond .ne 7, 3) := by decide +kernel
theorem dX9_near_23 : decode cX9_near 23 = .ok (.iconst (-1), 1) := by decide +kernel
theorem dX9_near_24 : decode cX9_near 24 = .ok (.goto 4, 3) := by decide +kernel
theorem dX9_near_27 : decode cX9_near 27 = .ok (.iconst 1, 1) := by decide +kernel
theorem dX9_near_28 : decode cX9_near 28 = .ok (.invokevirtual 165, 3) := by decide +kernel
theorem dX9_near_31 : decode cX9_near 31 = .ok (.goto 4, 3) := by decide +kernel
theorem dX9_near_34 : decode cX9_near 34 = .ok (.iconst (-1), 1) := by decide +kernel
theorem dX9_near_35 : decode cX9_near 35 = .ok (.ireturn, 1) := by decide +kernel
theorem dX9_isAhead_0 : decode cX9_isAhead 0 = .ok (.aload_n 0, 1) := by decide +kernel
theorem dX9_isAhead_1 : decode cX9_isAhead 1 = .ok (.iload_n 1, 1) := by decide +kernel
theorem dX9_isAhead_2 : decode cX9_isAhead 2 = .ok (.sipush 400, 3) := by decide +kernel
theorem dX9_isAhead_5 : decode cX9_isAhead 5 = .ok (.iload_n 2, 1) := by decide +kernel
theorem dX9_isAhead_6 : decode cX9_isAhead 6 = .ok (.iadd, 1) := by decide +kernel
theorem dX9_isAhead_7 : decode cX9_isAhead 7 = .ok (.invokevirtual 59, 3) := by decide +kernel
theorem dX9_isAhead_10 : decode cX9_isAhead 10 = .ok (.aload_n 0, 1) := by decide +kernel
theorem dX9_isAhead_11 : decode cX9_isAhead 11 = .ok (.iload_n 1, 1) := by decide +kernel
theorem dX9_isAhead_12 : decode cX9_isAhead 12 = .ok (.sipush 400, 3) := by decide +kernel
theorem dX9_isAhead_15 : decode cX9_isAhead 15 = .ok (.iload_n 3, 1) := by decide +kernel
theorem dX9_isAhead_16 : decode cX9_isAhead 16 = .ok (.iadd, 1) := by decide +kernel
theorem dX9_isAhead_17 : decode cX9_isAhead 17 = .ok (.invokevirtual 59, 3) := by decide +kernel
theorem dX9_isAhead_20 : decode cX9_isAhead 20 = .ok (.isub, 1) := by decide +kernel
theorem dX9_isAhead_21 : decode cX9_isAhead 21 = .ok (.istore 4, 2) := by decide +kernel
theorem dX9_isAhead_23 : decode cX9_isAhead 23 = .ok (.aload_n 0, 1) := by decide +kernel
theorem dX9_isAhead_24 : decode cX9_isAhead 24 = .ok (.iload_n 1, 1) := by decide +kernel
theorem dX9_isAhead_25 : decode cX9_isAhead 25 = .ok (.sipush 600, 3) := by decide +kernel
theorem dX9_isAhead_28 : decode cX9_isAhead 28 = .ok (.iload_n 3, 1) := by decide +kernel
theorem dX9_isAhead_29 : decode cX9_isAhead 29 = .ok (.iadd, 1) := by decide +kernel
theorem dX9_isAhead_30 : decode cX9_isAhead 30 = .ok (.invokevirtual 59, 3) := by decide +kernel
theorem dX9_isAhead_33 : decode cX9_isAhead 33 = .ok (.aload_n 0, 1) := by decide +kernel
theorem dX9_isAhead_34 : decode cX9_isAhead 34 = .ok (.iload_n 1, 1) := by decide +kernel
theorem dX9_isAhead_35 : decode cX9_isAhead 35 = .ok (.sipush 600, 3) := by decide +kernel
theorem dX9_isAhead_38 : decode cX9_isAhead 38 = .ok (.iload_n 2, 1) := by decide +kernel
theorem dX9_isAhead_39 : decode cX9_isAhead 39 = .ok (.iadd, 1) := by decide +kernel
theorem dX9_isAhead_40 : decode cX9_isAhead 40 = .ok (.invokevirtual 59, 3) := by decide +kernel
theorem dX9_isAhead_43 : decode cX9_isAhead 43 = .ok (.isub, 1) := by decide +kernel
theorem dX9_isAhead_44 : decode cX9_isAhead 44 = .ok (.istore 5, 2) := by decide +kernel
theorem dX9_isAhead_46 : decode cX9_isAhead 46 = .ok (.iload 4, 2) := by decide +kernel
theorem dX9_isAhead_48 : decode cX9_isAhead 48 = .ok (.ifCond .eq 16, 3) := by decide +kernel
theorem dX9_isAhead_51 : decode cX9_isAhead 51 = .ok (.iload 4, 2) := by decide +kernel
theorem dX9_isAhead_53 : decode cX9_isAhead 53 = .ok (.ifCond .ge 7, 3) := by decide +kernel
theorem dX9_isAhead_56 : decode cX9_isAhead 56 = .ok (.iconst 1, 1) := by decide +kernel
theorem dX9_isAhead_57 : decode cX9_isAhead 57 = .ok (.goto 35, 3) := by decide +kernel
theorem dX9_isAhead_60 : decode cX9_isAhead 60 = .ok (.iconst 0, 1) := by decide +kernel
theorem dX9_isAhead_61 : decode cX9_isAhead 61 = .ok (.goto 31, 3) := by decide +kernel
theorem dX9_isAhead_64 : decode cX9_isAhead 64 = .ok (.iload 5, 2) := by decide +kernel
theorem dX9_isAhead_66 : decode cX9_isAhead 66 = .ok (.ifCond .eq 16, 3) := by decide +kernel
theorem dX9_isAhead_69 : decode cX9_isAhead 69 = .ok (.iload 5, 2) := by decide +kernel
theorem dX9_isAhead_71 : decode cX9_isAhead 71 = .ok (.ifCond .ge 7, 3) := by decide +kernel
theorem dX9_isAhead_74 : decode cX9_isAhead 74 = .ok (.iconst 1, 1) := by decide +kernel
theorem dX9_isAhead_75 : decode cX9_isAhead 75 = .ok (.goto 17, 3) := by decide +kernel
theorem dX9_isAhead_78 : decode cX9_isAhead 78 = .ok (.iconst 0, 1) := by decide +kernel
theorem dX9_isAhead_79 : decode cX9_isAhead 79 = .ok (.goto 13, 3) := by decide +kernel
theorem dX9_isAhead_82 : decode cX9_isAhead 82 = .ok (.iload_n 2, 1) := by decide +kernel
theorem dX9_isAhead_83 : decode cX9_isAhead 83 = .ok (.iload_n 3, 1) := by decide +kernel
theorem dX9_isAhead_84 : decode cX9_isAhead 84 = .ok (.if_icmp .ge 7, 3) := by decide +kernel
theorem dX9_isAhead_87 : decode cX9_isAhead 87 = .ok (.iconst 1, 1) := by decide +kernel
theorem dX9_isAhead_88 : decode cX9_isAhead 88 = .ok (.goto 4, 3) := by decide +kernel
theorem dX9_isAhead_91 : decode cX9_isAhead 91 = .ok (.iconst 0, 1) := by decide +kernel
theorem dX9_isAhead_92 : decode cX9_isAhead 92 = .ok (.ireturn, 1) := by decide +kernel
theorem dX9_oldest_0 : decode cX9_oldest 0 = .ok (.iload_n 1, 1) := by decide +kernel
theorem dX9_oldest_1 : decode cX9_oldest 1 = .ok (.invokestatic 89, 3) := by decide +kernel
theorem dX9_oldest_4 : decode cX9_oldest 4 = .ok (.ifCond .eq 7, 3) := by decide +kernel
theorem dX9_oldest_7 : decode cX9_oldest 7 = .ok (.iload_n 2, 1) := by decide +kernel
theorem dX9_oldest_8 : decode cX9_oldest 8 = .ok (.ifCond .ge 5, 3) := by decide +kernel
theorem dX9_oldest_11 : decode cX9_oldest 11 = .ok (.iconst (-1), 1) := by decide +kernel
theorem dX9_oldest_12 : decode cX9_oldest 12 = .ok (.ireturn, 1) := by decide +kernel
theorem dX9_oldest_13 : decode cX9_oldest 13 = .ok (.iconst 0, 1) := by decide +kernel
theorem dX9_oldest_14 : decode cX9_oldest 14 = .ok (.istore_n 3, 1) := by decide +kernel
theorem dX9_oldest_15 : decode cX9_oldest 15 = .ok (.iload_n 3, 1) := by decide +kernel
theorem dX9_oldest_16 : decode cX9_oldest 16 = .ok (.sipush 200, 3) := by decide +kernel
theorem dX9_oldest_19 : decode cX9_oldest 19 = .ok (.if_icmp .ge 86, 3) := by decide +kernel
theorem dX9_oldest_22 : decode cX9_oldest 22 = .ok (.iconst 0, 1) := by decide +kernel
theorem dX9_oldest_23 : decode cX9_oldest 23 = .ok (.istore 4, 2) := by decide +kernel
theorem dX9_oldest_25 : decode cX9_oldest 25 = .ok (.iconst 0, 1) := by decide +kernel
theorem dX9_oldest_26 : decode cX9_oldest 26 = .ok (.istore 5, 2) := by decide +kernel
theorem dX9_oldest_28 : decode cX9_oldest 28 = .ok (.iload 5, 2) := by decide +kernel
theorem dX9_oldest_30 : decode cX9_oldest 30 = .ok (.sipush 200, 3) := by decide +kernel
theorem dX9_oldest_33 : decode cX9_oldest 33 = .ok (.if_icmp .ge 49, 3) := by decide +kernel
theorem dX9_oldest_36 : decode cX9_oldest 36 = .ok (.aload_n 0, 1) := by decide +kernel
theorem dX9_oldest_37 : decode cX9_oldest 37 = .ok (.iload_n 1, 1) := by decide +kernel
theorem dX9_oldest_38 : decode cX9_oldest 38 = .ok (.iload_n 3, 1) := by decide +kernel
theorem dX9_oldest_39 : decode cX9_oldest 39 = .ok (.invokevirtual 153, 3) := by decide +kernel
theorem dX9_oldest_42 : decode cX9_oldest 42 = .ok (.ifCond .eq 40, 3) := by decide +kernel
theorem dX9_oldest_45 : decode cX9_oldest 45 = .ok (.iload 4, 2) := by decide +kernel
theorem dX9_oldest_47 : decode cX9_oldest 47 = .ok (.aload_n 0, 1) := by decide +kernel
theorem dX9_oldest_48 : decode cX9_oldest 48 = .ok (.iload_n 1, 1) := by decide +kernel
theorem dX9_oldest_49 : decode cX9_oldest 49 = .ok (.iload 5, 2) := by decide +kernel
theorem dX9_oldest_51 : decode cX9_oldest 51 = .ok (.invokevirtual 153, 3) := by decide +kernel
theorem dX9_oldest_54 : decode cX9_oldest 54 = .ok (.ifCond .eq 18, 3) := by decide +kernel
theorem dX9_oldest_57 : decode cX9_oldest 57 = .ok (.aload_n 0, 1) := by decide +kernel
theorem dX9_oldest_58 : decode cX9_oldest 58 = .ok (.iload_n 1, 1) := by decide +kernel
theorem dX9_oldest_59 : decode cX9_oldest 59 = .ok (.iload 5, 2) := by decide +kernel
theorem dX9_oldest_61 : decode cX9_oldest 61 = .ok (.iload_n 3, 1) := by decide +kernel
theorem dX9_oldest_62 : decode cX9_oldest 62 = .ok (.invokevirtual 195, 3) := by decide +kernel
theorem dX9_oldest_65 : decode cX9_oldest 65 = .ok (.ifCond .eq 7, 3) := by decide +kernel
theorem dX9_oldest_68 : decode cX9_oldest 68 = .ok (.iconst 1, 1) := by decide +kernel
theorem dX9_oldest_69 : decode cX9_oldest 69 = .ok (.goto 4, 3) := by decide +kernel
theorem dX9_oldest_72 : decode cX9_oldest 72 = .ok (.iconst 0, 1) := by decide +kernel
theorem dX9_oldest_73 : decode cX9_oldest 73 = .ok (.iadd, 1) := by decide +kernel
theorem dX9_oldest_74 : decode cX9_oldest 74 = .ok (.istore 4, 2) := by decide +kernel
theorem dX9_oldest_76 : decode cX9_oldest 76 = .ok (.iinc 5 1, 3) := by decide +kernel
theorem dX9_oldest_79 : decode cX9_oldest 79 = .ok (.goto (-51), 3) := by decide +kernel
theorem dX9_oldest_82 : decode cX9_oldest 82 = .ok (.aload_n 0, 1) := by decide +kernel
theorem dX9_oldest_83 : decode cX9_oldest 83 = .ok (.iload_n 1, 1) := by decide +kernel
theorem dX9_oldest_84 : decode cX9_oldest 84 = .ok (.iload_n 3, 1) := by decide +kernel
theorem dX9_oldest_85 : decode cX9_oldest 85 = .ok (.invokevirtual 153, 3) := by decide +kernel
theorem dX9_oldest_88 : decode cX9_oldest 88 = .ok (.ifCond .eq 11, 3) := by decide +kernel
theorem dX9_oldest_91 : decode cX9_oldest 91 = .ok (.iload 4, 2) := by decide +kernel
theorem dX9_oldest_93 : decode cX9_oldest 93 = .ok (.iload_n 2, 1) := by decide +kernel
theorem dX9_oldest_94 : decode cX9_oldest 94 = .ok (.if_icmp .ne 5, 3) := by decide +kernel
theorem dX9_oldest_97 : decode cX9_oldest 97 = .ok (.iload_n 3, 1) := by decide +kernel
theorem dX9_oldest_98 : decode cX9_oldest 98 = .ok (.ireturn, 1) := by decide +kernel
theorem dX9_oldest_99 : decode cX9_oldest 99 = .ok (.iinc 3 1, 3) := by decide +kernel
theorem dX9_oldest_102 : decode cX9_oldest 102 = .ok (.goto (-87), 3) := by decide +kernel
theorem dX9_oldest_105 : decode cX9_oldest 105 = .ok (.bipush (-5), 2) := by decide +kernel
theorem dX9_oldest_107 : decode cX9_oldest 107 = .ok (.ireturn, 1) := by decide +kernel
theorem dX9_would_0 : decode cX9_would 0 = .ok (.iload_n 1, 1) := by decide +kernel
theorem dX9_would_1 : decode cX9_would 1 = .ok (.invokestatic 89, 3) := by decide +kernel
theorem dX9_would_4 : decode cX9_would 4 = .ok (.ifCond .eq 12, 3) := by decide +kernel
theorem dX9_would_7 : decode cX9_would 7 = .ok (.iload_n 2, 1) := by decide +kernel
theorem dX9_would_8 : decode cX9_would 8 = .ok (.iconst 0, 1) := by decide +kernel
theorem dX9_would_9 : decode cX9_would 9 = .ok (.iconst 1, 1) := by decide +kernel
theorem dX9_would_10 : decode cX9_would 10 = .ok (.invokestatic 55, 3) := by decide +kernel
theorem dX9_would_13 : decode cX9_would 13 = .ok (.ifCond .ne 5, 3) := by decide +kernel
theorem dX9_would_16 : decode cX9_would 16 = .ok (.iconst (-1), 1) := by decide +kernel
theorem dX9_would_17 : decode cX9_would 17 = .ok (.ireturn, 1) := by decide +kernel
theorem dX9_would_18 : decode cX9_would 18 = .ok (.aload_n 0, 1) := by decide +kernel
theorem dX9_would_19 : decode cX9_would 19 = .ok (.getfield 11, 3) := by decide +kernel
theorem dX9_would_22 : decode cX9_would 22 = .ok (.aload_n 0, 1) := by decide +kernel
theorem dX9_would_23 : decode cX9_would 23 = .ok (.getfield 15, 3) := by decide +kernel
theorem dX9_would_26 : decode cX9_would 26 = .ok (.invokestatic 198, 3) := by decide +kernel
theorem dX9_would_29 : decode cX9_would 29 = .ok (.iload_n 2, 1) := by decide +kernel
theorem dX9_would_30 : decode cX9_would 30 = .ok (.ifCond .ne 11, 3) := by decide +kernel
theorem dX9_would_33 : decode cX9_would 33 = .ok (.aload_n 0, 1) := by decide +kernel
theorem dX9_would_34 : decode cX9_would 34 = .ok (.iload_n 1, 1) := by decide +kernel
theorem dX9_would_35 : decode cX9_would 35 = .ok (.invokevirtual 117, 3) := by decide +kernel
theorem dX9_would_38 : decode cX9_would 38 = .ok (.goto 8, 3) := by decide +kernel
theorem dX9_would_41 : decode cX9_would 41 = .ok (.aload_n 0, 1) := by decide +kernel
theorem dX9_would_42 : decode cX9_would 42 = .ok (.iload_n 1, 1) := by decide +kernel
theorem dX9_would_43 : decode cX9_would 43 = .ok (.invokevirtual 120, 3) := by decide +kernel
theorem dX9_would_46 : decode cX9_would 46 = .ok (.istore_n 3, 1) := by decide +kernel
theorem dX9_would_47 : decode cX9_would 47 = .ok (.aload_n 0, 1) := by decide +kernel
theorem dX9_would_48 : decode cX9_would 48 = .ok (.getfield 15, 3) := by decide +kernel
theorem dX9_would_51 : decode cX9_would 51 = .ok (.aload_n 0, 1) := by decide +kernel
theorem dX9_would_52 : decode cX9_would 52 = .ok (.getfield 11, 3) := by decide +kernel
theorem dX9_would_55 : decode cX9_would 55 = .ok (.invokestatic 198, 3) := by decide +kernel
theorem dX9_would_58 : decode cX9_would 58 = .ok (.iload_n 3, 1) := by decide +kernel
theorem dX9_would_59 : decode cX9_would 59 = .ok (.ireturn, 1) := by decide +kernel
theorem dX9_need_0 : decode cX9_need 0 = .ok (.iload_n 1, 1) := by decide +kernel
theorem dX9_need_1 : decode cX9_need 1 = .ok (.invokestatic 89, 3) := by decide +kernel
theorem dX9_need_4 : decode cX9_need 4 = .ok (.ifCond .ne 5, 3) := by decide +kernel
theorem dX9_need_7 : decode cX9_need 7 = .ok (.iconst (-1), 1) := by decide +kernel
theorem dX9_need_8 : decode cX9_need 8 = .ok (.ireturn, 1) := by decide +kernel
theorem dX9_need_9 : decode cX9_need 9 = .ok (.iload_n 2, 1) := by decide +kernel
theorem dX9_need_10 : decode cX9_need 10 = .ok (.iconst 0, 1) := by decide +kernel
theorem dX9_need_11 : decode cX9_need 11 = .ok (.sipush 200, 3) := by decide +kernel
theorem dX9_need_14 : decode cX9_need 14 = .ok (.invokestatic 55, 3) := by decide +kernel
theorem dX9_need_17 : decode cX9_need 17 = .ok (.ifCond .ne 6, 3) := by decide +kernel
theorem dX9_need_20 : decode cX9_need 20 = .ok (.bipush (-2), 2) := by decide +kernel
theorem dX9_need_22 : decode cX9_need 22 = .ok (.ireturn, 1) := by decide +kernel
theorem dX9_need_23 : decode cX9_need 23 = .ok (.aload_n 0, 1) := by decide +kernel
theorem dX9_need_24 : decode cX9_need 24 = .ok (.getfield 11, 3) := by decide +kernel
theorem dX9_need_27 : decode cX9_need 27 = .ok (.aload_n 0, 1) := by decide +kernel
theorem dX9_need_28 : decode cX9_need 28 = .ok (.getfield 15, 3) := by decide +kernel
theorem dX9_need_31 : decode cX9_need 31 = .ok (.invokestatic 198, 3) := by decide +kernel
theorem dX9_need_34 : decode cX9_need 34 = .ok (.bipush (-5), 2) := by decide +kernel
theorem dX9_need_36 : decode cX9_need 36 = .ok (.istore_n 3, 1) := by decide +kernel
theorem dX9_need_37 : decode cX9_need 37 = .ok (.iconst 0, 1) := by decide +kernel
theorem dX9_need_38 : decode cX9_need 38 = .ok (.istore 4, 2) := by decide +kernel
theorem dX9_need_40 : decode cX9_need 40 = .ok (.iload 4, 2) := by decide +kernel
theorem dX9_need_42 : decode cX9_need 42 = .ok (.sipush 200, 3) := by decide +kernel
theorem dX9_need_45 : decode cX9_need 45 = .ok (.if_icmp .gt 57, 3) := by decide +kernel
theorem dX9_need_48 : decode cX9_need 48 = .ok (.iload_n 3, 1) := by decide +kernel
theorem dX9_need_49 : decode cX9_need 49 = .ok (.ifCond .ge 53, 3) := by decide +kernel
theorem dX9_need_52 : decode cX9_need 52 = .ok (.aload_n 0, 1) := by decide +kernel
theorem dX9_need_53 : decode cX9_need 53 = .ok (.getfield 11, 3) := by decide +kernel
theorem dX9_need_56 : decode cX9_need 56 = .ok (.sipush 5098, 3) := by decide +kernel
theorem dX9_need_59 : decode cX9_need 59 = .ok (.iload 4, 2) := by decide +kernel
theorem dX9_need_61 : decode cX9_need 61 = .ok (.iastore, 1) := by decide +kernel
theorem dX9_need_62 : decode cX9_need 62 = .ok (.aload_n 0, 1) := by decide +kernel
theorem dX9_need_63 : decode cX9_need 63 = .ok (.iload_n 1, 1) := by decide +kernel
theorem dX9_need_64 : decode cX9_need 64 = .ok (.invokevirtual 120, 3) := by decide +kernel
theorem dX9_need_67 : decode cX9_need 67 = .ok (.pop, 1) := by decide +kernel
theorem dX9_need_68 : decode cX9_need 68 = .ok (.aload_n 0, 1) := by decide +kernel
theorem dX9_need_69 : decode cX9_need 69 = .ok (.iload_n 1, 1) := by decide +kernel
theorem dX9_need_70 : decode cX9_need 70 = .ok (.invokevirtual 73, 3) := by decide +kernel
theorem dX9_need_73 : decode cX9_need 73 = .ok (.iload_n 2, 1) := by decide +kernel
theorem dX9_need_74 : decode cX9_need 74 = .ok (.if_icmp .lt 8, 3) := by decide +kernel
theorem dX9_need_77 : decode cX9_need 77 = .ok (.iload 4, 2) := by decide +kernel
theorem dX9_need_79 : decode cX9_need 79 = .ok (.goto 5, 3) := by decide +kernel
theorem dX9_need_82 : decode cX9_need 82 = .ok (.bipush (-5), 2) := by decide +kernel
theorem dX9_need_84 : decode cX9_need 84 = .ok (.istore_n 3, 1) := by decide +kernel
theorem dX9_need_85 : decode cX9_need 85 = .ok (.aload_n 0, 1) := by decide +kernel
theorem dX9_need_86 : decode cX9_need 86 = .ok (.getfield 15, 3) := by decide +kernel
theorem dX9_need_89 : decode cX9_need 89 = .ok (.aload_n 0, 1) := by decide +kernel
theorem dX9_need_90 : decode cX9_need 90 = .ok (.getfield 11, 3) := by decide +kernel
theorem dX9_need_93 : decode cX9_need 93 = .ok (.invokestatic 198, 3) := by decide +kernel
theorem dX9_need_96 : decode cX9_need 96 = .ok (.iinc 4 1, 3) := by decide +kernel
theorem dX9_need_99 : decode cX9_need 99 = .ok (.goto (-59), 3) := by decide +kernel
theorem dX9_need_102 : decode cX9_need 102 = .ok (.iload_n 3, 1) := by decide +kernel
theorem dX9_need_103 : decode cX9_need 103 = .ok (.ireturn, 1) := by decide +kernel
theorem dX9_isIn_0 : decode cX9_isIn 0 = .ok (.aload_n 0, 1) := by decide +kernel
theorem dX9_isIn_1 : decode cX9_isIn 1 = .ok (.getfield 11, 3) := by decide +kernel
theorem dX9_isIn_4 : decode cX9_isIn 4 = .ok (.sipush 5101, 3) := by decide +kernel
theorem dX9_isIn_7 : decode cX9_isIn 7 = .ok (.iaload, 1) := by decide +kernel
theorem dX9_isIn_8 : decode cX9_isIn 8 = .ok (.iload_n 1, 1) := by decide +kernel
theorem dX9_isIn_9 : decode cX9_isIn 9 = .ok (.ishr, 1) := by decide +kernel
theorem dX9_isIn_10 : decode cX9_isIn 10 = .ok (.iconst 1, 1) := by decide +kernel
theorem dX9_isIn_11 : decode cX9_isIn 11 = .ok (.iand, 1) := by decide +kernel
theorem dX9_isIn_12 : decode cX9_isIn 12 = .ok (.iconst 1, 1) := by decide +kernel
theorem dX9_isIn_13 : decode cX9_isIn 13 = .ok (.if_icmp .ne 7, 3) := by decide +kernel
theorem dX9_isIn_16 : decode cX9_isIn 16 = .ok (.iconst 1, 1) := by decide +kernel
theorem dX9_isIn_17 : decode cX9_isIn 17 = .ok (.goto 4, 3) := by decide +kernel
theorem dX9_isIn_20 : decode cX9_isIn 20 = .ok (.iconst 0, 1) := by decide +kernel
theorem dX9_isIn_21 : decode cX9_isIn 21 = .ok (.ireturn, 1) := by decide +kernel
theorem dX9_membersIn_0 : decode cX9_membersIn 0 = .ok (.iconst 0, 1) := by decide +kernel
theorem dX9_membersIn_1 : decode cX9_membersIn 1 = .ok (.istore_n 1, 1) := by decide +kernel
theorem dX9_membersIn_2 : decode cX9_membersIn 2 = .ok (.iconst 0, 1) := by decide +kernel
theorem dX9_membersIn_3 : decode cX9_membersIn 3 = .ok (.istore_n 2, 1) := by decide +kernel
theorem dX9_membersIn_4 : decode cX9_membersIn 4 = .ok (.iload_n 2, 1) := by decide +kernel
theorem dX9_membersIn_5 : decode cX9_membersIn 5 = .ok (.iconst 4, 1) := by decide +kernel
theorem dX9_membersIn_6 : decode cX9_membersIn 6 = .ok (.if_icmp .ge 25, 3) := by decide +kernel
theorem dX9_membersIn_9 : decode cX9_membersIn 9 = .ok (.iload_n 1, 1) := by decide +kernel
theorem dX9_membersIn_10 : decode cX9_membersIn 10 = .ok (.aload_n 0, 1) := by decide +kernel
theorem dX9_membersIn_11 : decode cX9_membersIn 11 = .ok (.iload_n 2, 1) := by decide +kernel
theorem dX9_membersIn_12 : decode cX9_membersIn 12 = .ok (.invokevirtual 202, 3) := by decide +kernel
theorem dX9_membersIn_15 : decode cX9_membersIn 15 = .ok (.ifCond .eq 7, 3) := by decide +kernel
theorem dX9_membersIn_18 : decode cX9_membersIn 18 = .ok (.iconst 1, 1) := by decide +kernel
theorem dX9_membersIn_19 : decode cX9_membersIn 19 = .ok (.goto 4, 3) := by decide +kernel
theorem dX9_membersIn_22 : decode cX9_membersIn 22 = .ok (.iconst 0, 1) := by decide +kernel
theorem dX9_membersIn_23 : decode cX9_membersIn 23 = .ok (.iadd, 1) := by decide +kernel
theorem dX9_membersIn_24 : decode cX9_membersIn 24 = .ok (.istore_n 1, 1) := by decide +kernel
theorem dX9_membersIn_25 : decode cX9_membersIn 25 = .ok (.iinc 2 1, 3) := by decide +kernel
theorem dX9_membersIn_28 : decode cX9_membersIn 28 = .ok (.goto (-24), 3) := by decide +kernel
theorem dX9_membersIn_31 : decode cX9_membersIn 31 = .ok (.iload_n 1, 1) := by decide +kernel
theorem dX9_membersIn_32 : decode cX9_membersIn 32 = .ok (.ireturn, 1) := by decide +kernel
theorem dX9_logsOf_0 : decode cX9_logsOf 0 = .ok (.iconst 0, 1) := by decide +kernel
theorem dX9_logsOf_1 : decode cX9_logsOf 1 = .ok (.istore_n 2, 1) := by decide +kernel
theorem dX9_logsOf_2 : decode cX9_logsOf 2 = .ok (.iconst 0, 1) := by decide +kernel
theorem dX9_logsOf_3 : decode cX9_logsOf 3 = .ok (.istore_n 3, 1) := by decide +kernel
theorem dX9_logsOf_4 : decode cX9_logsOf 4 = .ok (.iload_n 3, 1) := by decide +kernel
theorem dX9_logsOf_5 : decode cX9_logsOf 5 = .ok (.iconst 4, 1) := by decide +kernel
theorem dX9_logsOf_6 : decode cX9_logsOf 6 = .ok (.if_icmp .ge 31, 3) := by decide +kernel
theorem dX9_logsOf_9 : decode cX9_logsOf 9 = .ok (.iload_n 2, 1) := by decide +kernel
theorem dX9_logsOf_10 : decode cX9_logsOf 10 = .ok (.aload_n 0, 1) := by decide +kernel
theorem dX9_logsOf_11 : decode cX9_logsOf 11 = .ok (.iload_n 3, 1) := by decide +kernel
theorem dX9_logsOf_12 : decode cX9_logsOf 12 = .ok (.sipush 1272, 3) := by decide +kernel
theorem dX9_logsOf_15 : decode cX9_logsOf 15 = .ok (.invokevirtual 59, 3) := by decide +kernel
theorem dX9_logsOf_18 : decode cX9_logsOf 18 = .ok (.iload_n 1, 1) := by decide +kernel
theorem dX9_logsOf_19 : decode cX9_logsOf 19 = .ok (.if_icmp .ne 9, 3) := by decide +kernel
theorem dX9_logsOf_22 : decode cX9_logsOf 22 = .ok (.iconst 1, 1) := by decide +kernel
theorem dX9_logsOf_23 : decode cX9_logsOf 23 = .ok (.iload_n 3, 1) := by decide +kernel
theorem dX9_logsOf_24 : decode cX9_logsOf 24 = .ok (.ishl, 1) := by decide +kernel
theorem dX9_logsOf_25 : decode cX9_logsOf 25 = .ok (.goto 4, 3) := by decide +kernel
theorem dX9_logsOf_28 : decode cX9_logsOf 28 = .ok (.iconst 0, 1) := by decide +kernel
theorem dX9_logsOf_29 : decode cX9_logsOf 29 = .ok (.ior, 1) := by decide +kernel
theorem dX9_logsOf_30 : decode cX9_logsOf 30 = .ok (.istore_n 2, 1) := by decide +kernel
theorem dX9_logsOf_31 : decode cX9_logsOf 31 = .ok (.iinc 3 1, 3) := by decide +kernel
theorem dX9_logsOf_34 : decode cX9_logsOf 34 = .ok (.goto (-30), 3) := by decide +kernel
theorem dX9_logsOf_37 : decode cX9_logsOf 37 = .ok (.iload_n 2, 1) := by decide +kernel
theorem dX9_logsOf_38 : decode cX9_logsOf 38 = .ok (.ireturn, 1) := by decide +kernel
theorem dX9_bits_0 : decode cX9_bits 0 = .ok (.iconst 0, 1) := by decide +kernel
theorem dX9_bits_1 : decode cX9_bits 1 = .ok (.istore_n 1, 1) := by decide +kernel
theorem dX9_bits_2 : decode cX9_bits 2 = .ok (.iload_n 0, 1) := by decide +kernel
theorem dX9_bits_3 : decode cX9_bits 3 = .ok (.istore_n 2, 1) := by decide +kernel
theorem dX9_bits_4 : decode cX9_bits 4 = .ok (.iload_n 2, 1) := by decide +kernel
theorem dX9_bits_5 : decode cX9_bits 5 = .ok (.ifCond .eq 15, 3) := by decide +kernel
theorem dX9_bits_8 : decode cX9_bits 8 = .ok (.iinc 1 1, 3) := by decide +kernel
theorem dX9_bits_11 : decode cX9_bits 11 = .ok (.iload_n 2, 1) := by decide +kernel
theorem dX9_bits_12 : decode cX9_bits 12 = .ok (.iload_n 2, 1) := by decide +kernel
theorem dX9_bits_13 : decode cX9_bits 13 = .ok (.iconst 1, 1) := by decide +kernel
theorem dX9_bits_14 : decode cX9_bits 14 = .ok (.isub, 1) := by decide +kernel
theorem dX9_bits_15 : decode cX9_bits 15 = .ok (.iand, 1) := by decide +kernel
theorem dX9_bits_16 : decode cX9_bits 16 = .ok (.istore_n 2, 1) := by decide +kernel
theorem dX9_bits_17 : decode cX9_bits 17 = .ok (.goto (-13), 3) := by decide +kernel
theorem dX9_bits_20 : decode cX9_bits 20 = .ok (.iload_n 1, 1) := by decide +kernel
theorem dX9_bits_21 : decode cX9_bits 21 = .ok (.ireturn, 1) := by decide +kernel
theorem dX9_lets_0 : decode cX9_lets 0 = .ok (.iload_n 2, 1) := by decide +kernel
theorem dX9_lets_1 : decode cX9_lets 1 = .ok (.istore_n 3, 1) := by decide +kernel
theorem dX9_lets_2 : decode cX9_lets 2 = .ok (.iconst 0, 1) := by decide +kernel
theorem dX9_lets_3 : decode cX9_lets 3 = .ok (.istore 4, 2) := by decide +kernel
theorem dX9_lets_5 : decode cX9_lets 5 = .ok (.iload 4, 2) := by decide +kernel
theorem dX9_lets_7 : decode cX9_lets 7 = .ok (.iconst 4, 1) := by decide +kernel
theorem dX9_lets_8 : decode cX9_lets 8 = .ok (.if_icmp .ge 42, 3) := by decide +kernel
theorem dX9_lets_11 : decode cX9_lets 11 = .ok (.aload_n 0, 1) := by decide +kernel
theorem dX9_lets_12 : decode cX9_lets 12 = .ok (.iload 4, 2) := by decide +kernel
theorem dX9_lets_14 : decode cX9_lets 14 = .ok (.sipush 1272, 3) := by decide +kernel
theorem dX9_lets_17 : decode cX9_lets 17 = .ok (.invokevirtual 59, 3) := by decide +kernel
theorem dX9_lets_20 : decode cX9_lets 20 = .ok (.iload_n 1, 1) := by decide +kernel
theorem dX9_lets_21 : decode cX9_lets 21 = .ok (.if_icmp .ne 23, 3) := by decide +kernel
theorem dX9_lets_24 : decode cX9_lets 24 = .ok (.iload_n 3, 1) := by decide +kernel
theorem dX9_lets_25 : decode cX9_lets 25 = .ok (.ifCond .ne 16, 3) := by decide +kernel
theorem dX9_lets_28 : decode cX9_lets 28 = .ok (.aload_n 0, 1) := by decide +kernel
theorem dX9_lets_29 : decode cX9_lets 29 = .ok (.iload 4, 2) := by decide +kernel
theorem dX9_lets_31 : decode cX9_lets 31 = .ok (.sipush 1272, 3) := by decide +kernel
theorem dX9_lets_34 : decode cX9_lets 34 = .ok (.iconst (-1), 1) := by decide +kernel
theorem dX9_lets_35 : decode cX9_lets 35 = .ok (.invokevirtual 51, 3) := by decide +kernel
theorem dX9_lets_38 : decode cX9_lets 38 = .ok (.goto 6, 3) := by decide +kernel
theorem dX9_lets_41 : decode cX9_lets 41 = .ok (.iinc 3 (-1), 3) := by decide +kernel
theorem dX9_lets_44 : decode cX9_lets 44 = .ok (.iinc 4 1, 3) := by decide +kernel
theorem dX9_lets_47 : decode cX9_lets 47 = .ok (.goto (-42), 3) := by decide +kernel
theorem dX9_lets_50 : decode cX9_lets 50 = .ok (.return_, 1) := by decide +kernel
theorem dX9_least_0 : decode cX9_least 0 = .ok (.iconst (-1), 1) := by decide +kernel
theorem dX9_least_1 : decode cX9_least 1 = .ok (.istore_n 1, 1) := by decide +kernel
theorem dX9_least_2 : decode cX9_least 2 = .ok (.iconst 0, 1) := by decide +kernel
theorem dX9_least_3 : decode cX9_least 3 = .ok (.istore_n 2, 1) := by decide +kernel
theorem dX9_least_4 : decode cX9_least 4 = .ok (.iload_n 2, 1) := by decide +kernel
theorem dX9_least_5 : decode cX9_least 5 = .ok (.iconst 4, 1) := by decide +kernel
theorem dX9_least_6 : decode cX9_least 6 = .ok (.if_icmp .ge 46, 3) := by decide +kernel
theorem dX9_least_9 : decode cX9_least 9 = .ok (.aload_n 0, 1) := by decide +kernel
theorem dX9_least_10 : decode cX9_least 10 = .ok (.iload_n 2, 1) := by decide +kernel
theorem dX9_least_11 : decode cX9_least 11 = .ok (.invokevirtual 202, 3) := by decide +kernel
theorem dX9_least_14 : decode cX9_least 14 = .ok (.ifCond .eq 30, 3) := by decide +kernel
theorem dX9_least_17 : decode cX9_least 17 = .ok (.iload_n 1, 1) := by decide +kernel
theorem dX9_least_18 : decode cX9_least 18 = .ok (.ifCond .lt 22, 3) := by decide +kernel
theorem dX9_least_21 : decode cX9_least 21 = .ok (.aload_n 0, 1) := by decide +kernel
theorem dX9_least_22 : decode cX9_least 22 = .ok (.iload_n 2, 1) := by decide +kernel
theorem dX9_least_23 : decode cX9_least 23 = .ok (.invokevirtual 205, 3) := by decide +kernel
theorem dX9_least_26 : decode cX9_least 26 = .ok (.invokestatic 208, 3) := by decide +kernel
theorem dX9_least_29 : decode cX9_least 29 = .ok (.aload_n 0, 1) := by decide +kernel
theorem dX9_least_30 : decode cX9_least 30 = .ok (.iload_n 1, 1) := by decide +kernel
theorem dX9_least_31 : decode cX9_least 31 = .ok (.invokevirtual 205, 3) := by decide +kernel
theorem dX9_least_34 : decode cX9_least 34 = .ok (.invokestatic 208, 3) := by decide +kernel
theorem dX9_least_37 : decode cX9_least 37 = .ok (.if_icmp .ge 7, 3) := by decide +kernel
theorem dX9_least_40 : decode cX9_least 40 = .ok (.iload_n 2, 1) := by decide +kernel
theorem dX9_least_41 : decode cX9_least 41 = .ok (.goto 4, 3) := by decide +kernel
theorem dX9_least_44 : decode cX9_least 44 = .ok (.iload_n 1, 1) := by decide +kernel
theorem dX9_least_45 : decode cX9_least 45 = .ok (.istore_n 1, 1) := by decide +kernel
theorem dX9_least_46 : decode cX9_least 46 = .ok (.iinc 2 1, 3) := by decide +kernel
theorem dX9_least_49 : decode cX9_least 49 = .ok (.goto (-45), 3) := by decide +kernel
theorem dX9_least_52 : decode cX9_least 52 = .ok (.iload_n 1, 1) := by decide +kernel
theorem dX9_least_53 : decode cX9_least 53 = .ok (.ireturn, 1) := by decide +kernel
theorem dX9_shares_0 : decode cX9_shares 0 = .ok (.iconst 0, 1) := by decide +kernel
theorem dX9_shares_1 : decode cX9_shares 1 = .ok (.istore_n 1, 1) := by decide +kernel
theorem dX9_shares_2 : decode cX9_shares 2 = .ok (.iload_n 1, 1) := by decide +kernel
theorem dX9_shares_3 : decode cX9_shares 3 = .ok (.iconst 4, 1) := by decide +kernel
theorem dX9_shares_4 : decode cX9_shares 4 = .ok (.if_icmp .ge 54, 3) := by decide +kernel
theorem dX9_shares_7 : decode cX9_shares 7 = .ok (.aload_n 0, 1) := by decide +kernel
theorem dX9_shares_8 : decode cX9_shares 8 = .ok (.getfield 30, 3) := by decide +kernel
theorem dX9_shares_11 : decode cX9_shares 11 = .ok (.iload_n 1, 1) := by decide +kernel
theorem dX9_shares_12 : decode cX9_shares 12 = .ok (.aload_n 0, 1) := by decide +kernel
theorem dX9_shares_13 : decode cX9_shares 13 = .ok (.iload_n 1, 1) := by decide +kernel
theorem dX9_shares_14 : decode cX9_shares 14 = .ok (.sipush 1272, 3) := by decide +kernel
theorem dX9_shares_17 : decode cX9_shares 17 = .ok (.invokevirtual 59, 3) := by decide +kernel
theorem dX9_shares_20 : decode cX9_shares 20 = .ok (.iastore, 1) := by decide +kernel
theorem dX9_shares_21 : decode cX9_shares 21 = .ok (.aload_n 0, 1) := by decide +kernel
theorem dX9_shares_22 : decode cX9_shares 22 = .ok (.getfield 30, 3) := by decide +kernel
theorem dX9_shares_25 : decode cX9_shares 25 = .ok (.iload_n 1, 1) := by decide +kernel
theorem dX9_shares_26 : decode cX9_shares 26 = .ok (.iaload, 1) := by decide +kernel
theorem dX9_shares_27 : decode cX9_shares 27 = .ok (.ifCond .lt 25, 3) := by decide +kernel
theorem dX9_shares_30 : decode cX9_shares 30 = .ok (.aload_n 0, 1) := by decide +kernel
theorem dX9_shares_31 : decode cX9_shares 31 = .ok (.aload_n 0, 1) := by decide +kernel
theorem dX9_shares_32 : decode cX9_shares 32 = .ok (.getfield 30, 3) := by decide +kernel
theorem dX9_shares_35 : decode cX9_shares 35 = .ok (.iload_n 1, 1) := by decide +kernel
theorem dX9_shares_36 : decode cX9_shares 36 = .ok (.iaload, 1) := by decide +kernel
theorem dX9_shares_37 : decode cX9_shares 37 = .ok (.invokevirtual 202, 3) := by decide +kernel
theorem dX9_shares_40 : decode cX9_shares 40 = .ok (.ifCond .ne 12, 3) := by decide +kernel
theorem dX9_shares_43 : decode cX9_shares 43 = .ok (.aload_n 0, 1) := by decide +kernel
theorem dX9_shares_44 : decode cX9_shares 44 = .ok (.iload_n 1, 1) := by decide +kernel
theorem dX9_shares_45 : decode cX9_shares 45 = .ok (.sipush 1272, 3) := by decide +kernel
theorem dX9_shares_48 : decode cX9_shares 48 = .ok (.iconst (-1), 1) := by decide +kernel
theorem dX9_shares_49 : decode cX9_shares 49 = .ok (.invokevirtual 51, 3) := by decide +kernel
theorem dX9_shares_52 : decode cX9_shares 52 = .ok (.iinc 1 1, 3) := by decide +kernel
theorem dX9_shares_55 : decode cX9_shares 55 = .ok (.goto (-53), 3) := by decide +kernel
theorem dX9_shares_58 : decode cX9_shares 58 = .ok (.aload_n 0, 1) := by decide +kernel
theorem dX9_shares_59 : decode cX9_shares 59 = .ok (.invokevirtual 211, 3) := by decide +kernel
theorem dX9_shares_62 : decode cX9_shares 62 = .ok (.istore_n 1, 1) := by decide +kernel
theorem dX9_shares_63 : decode cX9_shares 63 = .ok (.iload_n 1, 1) := by decide +kernel
theorem dX9_shares_64 : decode cX9_shares 64 = .ok (.ifCond .ne 7, 3) := by decide +kernel
theorem dX9_shares_67 : decode cX9_shares 67 = .ok (.iconst 0, 1) := by decide +kernel
theorem dX9_shares_68 : decode cX9_shares 68 = .ok (.goto 6, 3) := by decide +kernel
theorem dX9_shares_71 : decode cX9_shares 71 = .ok (.iconst 4, 1) := by decide +kernel
theorem dX9_shares_72 : decode cX9_shares 72 = .ok (.iload_n 1, 1) := by decide +kernel
theorem dX9_shares_73 : decode cX9_shares 73 = .ok (.idiv, 1) := by decide +kernel
theorem dX9_shares_74 : decode cX9_shares 74 = .ok (.istore_n 2, 1) := by decide +kernel
theorem dX9_shares_75 : decode cX9_shares 75 = .ok (.iconst 4, 1) := by decide +kernel
theorem dX9_shares_76 : decode cX9_shares 76 = .ok (.iload_n 2, 1) := by decide +kernel
theorem dX9_shares_77 : decode cX9_shares 77 = .ok (.iload_n 1, 1) := by decide +kernel
theorem dX9_shares_78 : decode cX9_shares 78 = .ok (.imul, 1) := by decide +kernel
theorem dX9_shares_79 : decode cX9_shares 79 = .ok (.isub, 1) := by decide +kernel
theorem dX9_shares_80 : decode cX9_shares 80 = .ok (.istore_n 3, 1) := by decide +kernel
theorem dX9_shares_81 : decode cX9_shares 81 = .ok (.iconst 0, 1) := by decide +kernel
theorem dX9_shares_82 : decode cX9_shares 82 = .ok (.istore 4, 2) := by decide +kernel
theorem dX9_shares_84 : decode cX9_shares 84 = .ok (.iload 4, 2) := by decide +kernel
theorem dX9_shares_86 : decode cX9_shares 86 = .ok (.iconst 4, 1) := by decide +kernel
theorem dX9_shares_87 : decode cX9_shares 87 = .ok (.if_icmp .ge 55, 3) := by decide +kernel
theorem dX9_shares_90 : decode cX9_shares 90 = .ok (.iload_n 1, 1) := by decide +kernel
theorem dX9_shares_91 : decode cX9_shares 91 = .ok (.ifCond .le 51, 3) := by decide +kernel
theorem dX9_shares_94 : decode cX9_shares 94 = .ok (.aload_n 0, 1) := by decide +kernel
theorem dX9_shares_95 : decode cX9_shares 95 = .ok (.iload 4, 2) := by decide +kernel
theorem dX9_shares_97 : decode cX9_shares 97 = .ok (.invokevirtual 205, 3) := by decide +kernel
theorem dX9_shares_100 : decode cX9_shares 100 = .ok (.invokestatic 208, 3) := by decide +kernel
theorem dX9_shares_103 : decode cX9_shares 103 = .ok (.iload_n 2, 1) := by decide +kernel
theorem dX9_shares_104 : decode cX9_shares 104 = .ok (.if_icmp .le 32, 3) := by decide +kernel
theorem dX9_shares_107 : decode cX9_shares 107 = .ok (.aload_n 0, 1) := by decide +kernel
theorem dX9_shares_108 : decode cX9_shares 108 = .ok (.iload 4, 2) := by decide +kernel
theorem dX9_shares_110 : decode cX9_shares 110 = .ok (.iload_n 3, 1) := by decide +kernel
theorem dX9_shares_111 : decode cX9_shares 111 = .ok (.ifCond .le 9, 3) := by decide +kernel
theorem dX9_shares_114 : decode cX9_shares 114 = .ok (.iload_n 2, 1) := by decide +kernel
theorem dX9_shares_115 : decode cX9_shares 115 = .ok (.iconst 1, 1) := by decide +kernel
theorem dX9_shares_116 : decode cX9_shares 116 = .ok (.iadd, 1) := by decide +kernel
theorem dX9_shares_117 : decode cX9_shares 117 = .ok (.goto 4, 3) := by decide +kernel
theorem dX9_shares_120 : decode cX9_shares 120 = .ok (.iload_n 2, 1) := by decide +kernel
theorem dX9_shares_121 : decode cX9_shares 121 = .ok (.invokevirtual 215, 3) := by decide +kernel
theorem dX9_shares_124 : decode cX9_shares 124 = .ok (.iload_n 3, 1) := by decide +kernel
theorem dX9_shares_125 : decode cX9_shares 125 = .ok (.iload_n 3, 1) := by decide +kernel
theorem dX9_shares_126 : decode cX9_shares 126 = .ok (.ifCond .le 7, 3) := by decide +kernel
theorem dX9_shares_129 : decode cX9_shares 129 = .ok (.iconst 1, 1) := by decide +kernel
theorem dX9_shares_130 : decode cX9_shares 130 = .ok (.goto 4, 3) := by decide +kernel
theorem dX9_shares_133 : decode cX9_shares 133 = .ok (.iconst 0, 1) := by decide +kernel
theorem dX9_shares_134 : decode cX9_shares 134 = .ok (.isub, 1) := by decide +kernel
theorem dX9_shares_135 : decode cX9_shares 135 = .ok (.istore_n 3, 1) := by decide +kernel
theorem dX9_shares_136 : decode cX9_shares 136 = .ok (.iinc 4 1, 3) := by decide +kernel
theorem dX9_shares_139 : decode cX9_shares 139 = .ok (.goto (-55), 3) := by decide +kernel
theorem dX9_shares_142 : decode cX9_shares 142 = .ok (.iconst 0, 1) := by decide +kernel
theorem dX9_shares_143 : decode cX9_shares 143 = .ok (.istore 4, 2) := by decide +kernel
theorem dX9_shares_145 : decode cX9_shares 145 = .ok (.iconst 0, 1) := by decide +kernel
theorem dX9_shares_146 : decode cX9_shares 146 = .ok (.istore 5, 2) := by decide +kernel
theorem dX9_shares_148 : decode cX9_shares 148 = .ok (.iload 5, 2) := by decide +kernel
theorem dX9_shares_150 : decode cX9_shares 150 = .ok (.iconst 4, 1) := by decide +kernel
theorem dX9_shares_151 : decode cX9_shares 151 = .ok (.if_icmp .ge 34, 3) := by decide +kernel
theorem dX9_shares_154 : decode cX9_shares 154 = .ok (.aload_n 0, 1) := by decide +kernel
theorem dX9_shares_155 : decode cX9_shares 155 = .ok (.iload 5, 2) := by decide +kernel
theorem dX9_shares_157 : decode cX9_shares 157 = .ok (.sipush 1272, 3) := by decide +kernel
theorem dX9_shares_160 : decode cX9_shares 160 = .ok (.invokevirtual 59, 3) := by decide +kernel
theorem dX9_shares_163 : decode cX9_shares 163 = .ok (.ifCond .ge 16, 3) := by decide +kernel
theorem dX9_shares_166 : decode cX9_shares 166 = .ok (.aload_n 0, 1) := by decide +kernel
theorem dX9_shares_167 : decode cX9_shares 167 = .ok (.iload 5, 2) := by decide +kernel
theorem dX9_shares_169 : decode cX9_shares 169 = .ok (.sipush 1272, 3) := by decide +kernel
theorem dX9_shares_172 : decode cX9_shares 172 = .ok (.aload_n 0, 1) := by decide +kernel
theorem dX9_shares_173 : decode cX9_shares 173 = .ok (.invokevirtual 218, 3) := by decide +kernel
theorem dX9_shares_176 : decode cX9_shares 176 = .ok (.invokevirtual 51, 3) := by decide +kernel
theorem dX9_shares_179 : decode cX9_shares 179 = .ok (.iinc 5 1, 3) := by decide +kernel
theorem dX9_shares_182 : decode cX9_shares 182 = .ok (.goto (-34), 3) := by decide +kernel
theorem dX9_shares_185 : decode cX9_shares 185 = .ok (.iconst 0, 1) := by decide +kernel
theorem dX9_shares_186 : decode cX9_shares 186 = .ok (.istore 5, 2) := by decide +kernel
theorem dX9_shares_188 : decode cX9_shares 188 = .ok (.iload 5, 2) := by decide +kernel
theorem dX9_shares_190 : decode cX9_shares 190 = .ok (.iconst 4, 1) := by decide +kernel
theorem dX9_shares_191 : decode cX9_shares 191 = .ok (.if_icmp .ge 38, 3) := by decide +kernel
theorem dX9_shares_194 : decode cX9_shares 194 = .ok (.iload 4, 2) := by decide +kernel
theorem dX9_shares_196 : decode cX9_shares 196 = .ok (.aload_n 0, 1) := by decide +kernel
theorem dX9_shares_197 : decode cX9_shares 197 = .ok (.iload 5, 2) := by decide +kernel
theorem dX9_shares_199 : decode cX9_shares 199 = .ok (.sipush 1272, 3) := by decide +kernel
theorem dX9_shares_202 : decode cX9_shares 202 = .ok (.invokevirtual 59, 3) := by decide +kernel
theorem dX9_shares_205 : decode cX9_shares 205 = .ok (.aload_n 0, 1) := by decide +kernel
theorem dX9_shares_206 : decode cX9_shares 206 = .ok (.getfield 30, 3) := by decide +kernel
theorem dX9_shares_209 : decode cX9_shares 209 = .ok (.iload 5, 2) := by decide +kernel
theorem dX9_shares_211 : decode cX9_shares 211 = .ok (.iaload, 1) := by decide +kernel
theorem dX9_shares_212 : decode cX9_shares 212 = .ok (.if_icmp .eq 7, 3) := by decide +kernel
theorem dX9_shares_215 : decode cX9_shares 215 = .ok (.iconst 1, 1) := by decide +kernel
theorem dX9_shares_216 : decode cX9_shares 216 = .ok (.goto 4, 3) := by decide +kernel
theorem dX9_shares_219 : decode cX9_shares 219 = .ok (.iconst 0, 1) := by decide +kernel
theorem dX9_shares_220 : decode cX9_shares 220 = .ok (.iadd, 1) := by decide +kernel
theorem dX9_shares_221 : decode cX9_shares 221 = .ok (.istore 4, 2) := by decide +kernel
theorem dX9_shares_223 : decode cX9_shares 223 = .ok (.iinc 5 1, 3) := by decide +kernel
theorem dX9_shares_226 : decode cX9_shares 226 = .ok (.goto (-38), 3) := by decide +kernel
theorem dX9_shares_229 : decode cX9_shares 229 = .ok (.iload 4, 2) := by decide +kernel
theorem dX9_shares_231 : decode cX9_shares 231 = .ok (.ireturn, 1) := by decide +kernel
theorem dX9_join_0 : decode cX9_join 0 = .ok (.iload_n 1, 1) := by decide +kernel
theorem dX9_join_1 : decode cX9_join 1 = .ok (.invokestatic 89, 3) := by decide +kernel
theorem dX9_join_4 : decode cX9_join 4 = .ok (.ifCond .ne 5, 3) := by decide +kernel
theorem dX9_join_7 : decode cX9_join 7 = .ok (.iconst (-1), 1) := by decide +kernel
theorem dX9_join_8 : decode cX9_join 8 = .ok (.ireturn, 1) := by decide +kernel
theorem dX9_join_9 : decode cX9_join 9 = .ok (.aload_n 0, 1) := by decide +kernel
theorem dX9_join_10 : decode cX9_join 10 = .ok (.iload_n 1, 1) := by decide +kernel
theorem dX9_join_11 : decode cX9_join 11 = .ok (.invokevirtual 202, 3) := by decide +kernel
theorem dX9_join_14 : decode cX9_join 14 = .ok (.ifCond .eq 6, 3) := by decide +kernel
theorem dX9_join_17 : decode cX9_join 17 = .ok (.bipush (-3), 2) := by decide +kernel
theorem dX9_join_19 : decode cX9_join 19 = .ok (.ireturn, 1) := by decide +kernel
theorem dX9_join_20 : decode cX9_join 20 = .ok (.aload_n 0, 1) := by decide +kernel
theorem dX9_join_21 : decode cX9_join 21 = .ok (.getfield 11, 3) := by decide +kernel
theorem dX9_join_24 : decode cX9_join 24 = .ok (.sipush 5101, 3) := by decide +kernel
theorem dX9_join_27 : decode cX9_join 27 = .ok (.dup2, 1) := by decide +kernel
theorem dX9_join_28 : decode cX9_join 28 = .ok (.iaload, 1) := by decide +kernel
theorem dX9_join_29 : decode cX9_join 29 = .ok (.iconst 1, 1) := by decide +kernel
theorem dX9_join_30 : decode cX9_join 30 = .ok (.iload_n 1, 1) := by decide +kernel
theorem dX9_join_31 : decode cX9_join 31 = .ok (.ishl, 1) := by decide +kernel
theorem dX9_join_32 : decode cX9_join 32 = .ok (.ior, 1) := by decide +kernel
theorem dX9_join_33 : decode cX9_join 33 = .ok (.iastore, 1) := by decide +kernel
theorem dX9_join_34 : decode cX9_join 34 = .ok (.aload_n 0, 1) := by decide +kernel
theorem dX9_join_35 : decode cX9_join 35 = .ok (.invokevirtual 221, 3) := by decide +kernel
theorem dX9_join_38 : decode cX9_join 38 = .ok (.ireturn, 1) := by decide +kernel
theorem dX9_leave_0 : decode cX9_leave 0 = .ok (.iload_n 1, 1) := by decide +kernel
theorem dX9_leave_1 : decode cX9_leave 1 = .ok (.invokestatic 89, 3) := by decide +kernel
theorem dX9_leave_4 : decode cX9_leave 4 = .ok (.ifCond .ne 5, 3) := by decide +kernel
theorem dX9_leave_7 : decode cX9_leave 7 = .ok (.iconst (-1), 1) := by decide +kernel
theorem dX9_leave_8 : decode cX9_leave 8 = .ok (.ireturn, 1) := by decide +kernel
theorem dX9_leave_9 : decode cX9_leave 9 = .ok (.aload_n 0, 1) := by decide +kernel
theorem dX9_leave_10 : decode cX9_leave 10 = .ok (.iload_n 1, 1) := by decide +kernel
theorem dX9_leave_11 : decode cX9_leave 11 = .ok (.invokevirtual 202, 3) := by decide +kernel
theorem dX9_leave_14 : decode cX9_leave 14 = .ok (.ifCond .ne 6, 3) := by decide +kernel
theorem dX9_leave_17 : decode cX9_leave 17 = .ok (.bipush (-3), 2) := by decide +kernel
theorem dX9_leave_19 : decode cX9_leave 19 = .ok (.ireturn, 1) := by decide +kernel
theorem dX9_leave_20 : decode cX9_leave 20 = .ok (.aload_n 0, 1) := by decide +kernel
theorem dX9_leave_21 : decode cX9_leave 21 = .ok (.getfield 11, 3) := by decide +kernel
theorem dX9_leave_24 : decode cX9_leave 24 = .ok (.sipush 5101, 3) := by decide +kernel
theorem dX9_leave_27 : decode cX9_leave 27 = .ok (.dup2, 1) := by decide +kernel
theorem dX9_leave_28 : decode cX9_leave 28 = .ok (.iaload, 1) := by decide +kernel
theorem dX9_leave_29 : decode cX9_leave 29 = .ok (.iconst 1, 1) := by decide +kernel
theorem dX9_leave_30 : decode cX9_leave 30 = .ok (.iload_n 1, 1) := by decide +kernel
theorem dX9_leave_31 : decode cX9_leave 31 = .ok (.ishl, 1) := by decide +kernel
theorem dX9_leave_32 : decode cX9_leave 32 = .ok (.iconst (-1), 1) := by decide +kernel
theorem dX9_leave_33 : decode cX9_leave 33 = .ok (.ixor, 1) := by decide +kernel
theorem dX9_leave_34 : decode cX9_leave 34 = .ok (.iand, 1) := by decide +kernel
theorem dX9_leave_35 : decode cX9_leave 35 = .ok (.iastore, 1) := by decide +kernel
theorem dX9_leave_36 : decode cX9_leave 36 = .ok (.aload_n 0, 1) := by decide +kernel
theorem dX9_leave_37 : decode cX9_leave 37 = .ok (.invokevirtual 221, 3) := by decide +kernel
theorem dX9_leave_40 : decode cX9_leave 40 = .ok (.ireturn, 1) := by decide +kernel
theorem dX9_polled_0 : decode cX9_polled 0 = .ok (.iconst 0, 1) := by decide +kernel
theorem dX9_polled_1 : decode cX9_polled 1 = .ok (.istore_n 2, 1) := by decide +kernel
theorem dX9_polled_2 : decode cX9_polled 2 = .ok (.iload_n 2, 1) := by decide +kernel
theorem dX9_polled_3 : decode cX9_polled 3 = .ok (.iconst 4, 1) := by decide +kernel
theorem dX9_polled_4 : decode cX9_polled 4 = .ok (.if_icmp .ge 76, 3) := by decide +kernel
theorem dX9_polled_7 : decode cX9_polled 7 = .ok (.aload_n 0, 1) := by decide +kernel
theorem dX9_polled_8 : decode cX9_polled 8 = .ok (.iload_n 2, 1) := by decide +kernel
theorem dX9_polled_9 : decode cX9_polled 9 = .ok (.sipush 1272, 3) := by decide +kernel
theorem dX9_polled_12 : decode cX9_polled 12 = .ok (.invokevirtual 59, 3) := by decide +kernel
theorem dX9_polled_15 : decode cX9_polled 15 = .ok (.iload_n 1, 1) := by decide +kernel
theorem dX9_polled_16 : decode cX9_polled 16 = .ok (.if_icmp .ne 20, 3) := by decide +kernel
theorem dX9_polled_19 : decode cX9_polled 19 = .ok (.aload_n 0, 1) := by decide +kernel
theorem dX9_polled_20 : decode cX9_polled 20 = .ok (.iload_n 2, 1) := by decide +kernel
theorem dX9_polled_21 : decode cX9_polled 21 = .ok (.aload_n 0, 1) := by decide +kernel
theorem dX9_polled_22 : decode cX9_polled 22 = .ok (.iload_n 2, 1) := by decide +kernel
theorem dX9_polled_23 : decode cX9_polled 23 = .ok (.sipush 1273, 3) := by decide +kernel
theorem dX9_polled_26 : decode cX9_polled 26 = .ok (.invokevirtual 59, 3) := by decide +kernel
theorem dX9_polled_29 : decode cX9_polled 29 = .ok (.iconst 1, 1) := by decide +kernel
theorem dX9_polled_30 : decode cX9_polled 30 = .ok (.invokevirtual 165, 3) := by decide +kernel
theorem dX9_polled_33 : decode cX9_polled 33 = .ok (.goto 5, 3) := by decide +kernel
theorem dX9_polled_36 : decode cX9_polled 36 = .ok (.bipush (-5), 2) := by decide +kernel
theorem dX9_polled_38 : decode cX9_polled 38 = .ok (.istore_n 3, 1) := by decide +kernel
theorem dX9_polled_39 : decode cX9_polled 39 = .ok (.iload_n 3, 1) := by decide +kernel
theorem dX9_polled_40 : decode cX9_polled 40 = .ok (.ifCond .lt 34, 3) := by decide +kernel
theorem dX9_polled_43 : decode cX9_polled 43 = .ok (.aload_n 0, 1) := by decide +kernel
theorem dX9_polled_44 : decode cX9_polled 44 = .ok (.iload_n 2, 1) := by decide +kernel
theorem dX9_polled_45 : decode cX9_polled 45 = .ok (.sipush 1273, 3) := by decide +kernel
theorem dX9_polled_48 : decode cX9_polled 48 = .ok (.iload_n 3, 1) := by decide +kernel
theorem dX9_polled_49 : decode cX9_polled 49 = .ok (.iconst 1, 1) := by decide +kernel
theorem dX9_polled_50 : decode cX9_polled 50 = .ok (.iadd, 1) := by decide +kernel
theorem dX9_polled_51 : decode cX9_polled 51 = .ok (.invokevirtual 51, 3) := by decide +kernel
theorem dX9_polled_54 : decode cX9_polled 54 = .ok (.aload_n 0, 1) := by decide +kernel
theorem dX9_polled_55 : decode cX9_polled 55 = .ok (.getfield 11, 3) := by decide +kernel
theorem dX9_polled_58 : decode cX9_polled 58 = .ok (.sipush 5100, 3) := by decide +kernel
theorem dX9_polled_61 : decode cX9_polled 61 = .ok (.dup2, 1) := by decide +kernel
theorem dX9_polled_62 : decode cX9_polled 62 = .ok (.iaload, 1) := by decide +kernel
theorem dX9_polled_63 : decode cX9_polled 63 = .ok (.iconst 1, 1) := by decide +kernel
theorem dX9_polled_64 : decode cX9_polled 64 = .ok (.iadd, 1) := by decide +kernel
theorem dX9_polled_65 : decode cX9_polled 65 = .ok (.iastore, 1) := by decide +kernel
theorem dX9_polled_66 : decode cX9_polled 66 = .ok (.sipush 1000, 3) := by decide +kernel
theorem dX9_polled_69 : decode cX9_polled 69 = .ok (.iload_n 2, 1) := by decide +kernel
theorem dX9_polled_70 : decode cX9_polled 70 = .ok (.imul, 1) := by decide +kernel
theorem dX9_polled_71 : decode cX9_polled 71 = .ok (.iload_n 3, 1) := by decide +kernel
theorem dX9_polled_72 : decode cX9_polled 72 = .ok (.iadd, 1) := by decide +kernel
theorem dX9_polled_73 : decode cX9_polled 73 = .ok (.ireturn, 1) := by decide +kernel
theorem dX9_polled_74 : decode cX9_polled 74 = .ok (.iinc 2 1, 3) := by decide +kernel
theorem dX9_polled_77 : decode cX9_polled 77 = .ok (.goto (-75), 3) := by decide +kernel
theorem dX9_polled_80 : decode cX9_polled 80 = .ok (.bipush (-5), 2) := by decide +kernel
theorem dX9_polled_82 : decode cX9_polled 82 = .ok (.ireturn, 1) := by decide +kernel
theorem dX9_poll_0 : decode cX9_poll 0 = .ok (.iload_n 1, 1) := by decide +kernel
theorem dX9_poll_1 : decode cX9_poll 1 = .ok (.invokestatic 89, 3) := by decide +kernel
theorem dX9_poll_4 : decode cX9_poll 4 = .ok (.ifCond .ne 5, 3) := by decide +kernel
theorem dX9_poll_7 : decode cX9_poll 7 = .ok (.iconst (-1), 1) := by decide +kernel
theorem dX9_poll_8 : decode cX9_poll 8 = .ok (.ireturn, 1) := by decide +kernel
theorem dX9_poll_9 : decode cX9_poll 9 = .ok (.aload_n 0, 1) := by decide +kernel
theorem dX9_poll_10 : decode cX9_poll 10 = .ok (.iload_n 1, 1) := by decide +kernel
theorem dX9_poll_11 : decode cX9_poll 11 = .ok (.invokevirtual 202, 3) := by decide +kernel
theorem dX9_poll_14 : decode cX9_poll 14 = .ok (.ifCond .eq 11, 3) := by decide +kernel
theorem dX9_poll_17 : decode cX9_poll 17 = .ok (.aload_n 0, 1) := by decide +kernel
theorem dX9_poll_18 : decode cX9_poll 18 = .ok (.iload_n 1, 1) := by decide +kernel
theorem dX9_poll_19 : decode cX9_poll 19 = .ok (.invokevirtual 224, 3) := by decide +kernel
theorem dX9_poll_22 : decode cX9_poll 22 = .ok (.goto 5, 3) := by decide +kernel
theorem dX9_poll_25 : decode cX9_poll 25 = .ok (.bipush (-3), 2) := by decide +kernel
theorem dX9_poll_27 : decode cX9_poll 27 = .ok (.ireturn, 1) := by decide +kernel
theorem dX9_seek_0 : decode cX9_seek 0 = .ok (.iload_n 1, 1) := by decide +kernel
theorem dX9_seek_1 : decode cX9_seek 1 = .ok (.invokestatic 89, 3) := by decide +kernel
theorem dX9_seek_4 : decode cX9_seek 4 = .ok (.ifCond .ne 5, 3) := by decide +kernel
theorem dX9_seek_7 : decode cX9_seek 7 = .ok (.iconst (-1), 1) := by decide +kernel
theorem dX9_seek_8 : decode cX9_seek 8 = .ok (.ireturn, 1) := by decide +kernel
theorem dX9_seek_9 : decode cX9_seek 9 = .ok (.iload_n 2, 1) := by decide +kernel
theorem dX9_seek_10 : decode cX9_seek 10 = .ok (.iconst 0, 1) := by decide +kernel
theorem dX9_seek_11 : decode cX9_seek 11 = .ok (.aload_n 0, 1) := by decide +kernel
theorem dX9_seek_12 : decode cX9_seek 12 = .ok (.iload_n 1, 1) := by decide +kernel
theorem dX9_seek_13 : decode cX9_seek 13 = .ok (.sipush 1271, 3) := by decide +kernel
theorem dX9_seek_16 : decode cX9_seek 16 = .ok (.invokevirtual 59, 3) := by decide +kernel
theorem dX9_seek_19 : decode cX9_seek 19 = .ok (.invokestatic 55, 3) := by decide +kernel
theorem dX9_seek_22 : decode cX9_seek 22 = .ok (.ifCond .ne 6, 3) := by decide +kernel
theorem dX9_seek_25 : decode cX9_seek 25 = .ok (.bipush (-2), 2) := by decide +kernel
theorem dX9_seek_27 : decode cX9_seek 27 = .ok (.ireturn, 1) := by decide +kernel
theorem dX9_seek_28 : decode cX9_seek 28 = .ok (.aload_n 0, 1) := by decide +kernel
theorem dX9_seek_29 : decode cX9_seek 29 = .ok (.iload_n 1, 1) := by decide +kernel
theorem dX9_seek_30 : decode cX9_seek 30 = .ok (.sipush 1273, 3) := by decide +kernel
theorem dX9_seek_33 : decode cX9_seek 33 = .ok (.invokevirtual 59, 3) := by decide +kernel
theorem dX9_seek_36 : decode cX9_seek 36 = .ok (.istore_n 3, 1) := by decide +kernel
theorem dX9_seek_37 : decode cX9_seek 37 = .ok (.aload_n 0, 1) := by decide +kernel
theorem dX9_seek_38 : decode cX9_seek 38 = .ok (.iload_n 1, 1) := by decide +kernel
theorem dX9_seek_39 : decode cX9_seek 39 = .ok (.sipush 1273, 3) := by decide +kernel
theorem dX9_seek_42 : decode cX9_seek 42 = .ok (.iload_n 2, 1) := by decide +kernel
theorem dX9_seek_43 : decode cX9_seek 43 = .ok (.invokevirtual 51, 3) := by decide +kernel
theorem dX9_seek_46 : decode cX9_seek 46 = .ok (.iload_n 3, 1) := by decide +kernel
theorem dX9_seek_47 : decode cX9_seek 47 = .ok (.ireturn, 1) := by decide +kernel
theorem dX9_lag_0 : decode cX9_lag 0 = .ok (.iconst 0, 1) := by decide +kernel
theorem dX9_lag_1 : decode cX9_lag 1 = .ok (.istore_n 2, 1) := by decide +kernel
theorem dX9_lag_2 : decode cX9_lag 2 = .ok (.iconst 0, 1) := by decide +kernel
theorem dX9_lag_3 : decode cX9_lag 3 = .ok (.istore_n 3, 1) := by decide +kernel
theorem dX9_lag_4 : decode cX9_lag 4 = .ok (.iload_n 3, 1) := by decide +kernel
theorem dX9_lag_5 : decode cX9_lag 5 = .ok (.iconst 4, 1) := by decide +kernel
theorem dX9_lag_6 : decode cX9_lag 6 = .ok (.if_icmp .ge 57, 3) := by decide +kernel
theorem dX9_lag_9 : decode cX9_lag 9 = .ok (.aload_n 0, 1) := by decide +kernel
theorem dX9_lag_10 : decode cX9_lag 10 = .ok (.iload_n 3, 1) := by decide +kernel
theorem dX9_lag_11 : decode cX9_lag 11 = .ok (.sipush 1273, 3) := by decide +kernel
theorem dX9_lag_14 : decode cX9_lag 14 = .ok (.invokevirtual 59, 3) := by decide +kernel
theorem dX9_lag_17 : decode cX9_lag 17 = .ok (.istore 4, 2) := by decide +kernel
theorem dX9_lag_19 : decode cX9_lag 19 = .ok (.iload 4, 2) := by decide +kernel
theorem dX9_lag_21 : decode cX9_lag 21 = .ok (.sipush 200, 3) := by decide +kernel
theorem dX9_lag_24 : decode cX9_lag 24 = .ok (.if_icmp .ge 33, 3) := by decide +kernel
theorem dX9_lag_27 : decode cX9_lag 27 = .ok (.aload_n 0, 1) := by decide +kernel
theorem dX9_lag_28 : decode cX9_lag 28 = .ok (.iload_n 3, 1) := by decide +kernel
theorem dX9_lag_29 : decode cX9_lag 29 = .ok (.sipush 1272, 3) := by decide +kernel
theorem dX9_lag_32 : decode cX9_lag 32 = .ok (.invokevirtual 59, 3) := by decide +kernel
theorem dX9_lag_35 : decode cX9_lag 35 = .ok (.iload_n 1, 1) := by decide +kernel
theorem dX9_lag_36 : decode cX9_lag 36 = .ok (.if_icmp .ne 21, 3) := by decide +kernel
theorem dX9_lag_39 : decode cX9_lag 39 = .ok (.iload_n 2, 1) := by decide +kernel
theorem dX9_lag_40 : decode cX9_lag 40 = .ok (.aload_n 0, 1) := by decide +kernel
theorem dX9_lag_41 : decode cX9_lag 41 = .ok (.iload_n 3, 1) := by decide +kernel
theorem dX9_lag_42 : decode cX9_lag 42 = .ok (.iconst 0, 1) := by decide +kernel
theorem dX9_lag_43 : decode cX9_lag 43 = .ok (.iload 4, 2) := by decide +kernel
theorem dX9_lag_45 : decode cX9_lag 45 = .ok (.iadd, 1) := by decide +kernel
theorem dX9_lag_46 : decode cX9_lag 46 = .ok (.invokevirtual 59, 3) := by decide +kernel
theorem dX9_lag_49 : decode cX9_lag 49 = .ok (.iadd, 1) := by decide +kernel
theorem dX9_lag_50 : decode cX9_lag 50 = .ok (.istore_n 2, 1) := by decide +kernel
theorem dX9_lag_51 : decode cX9_lag 51 = .ok (.iinc 4 1, 3) := by decide +kernel
theorem dX9_lag_54 : decode cX9_lag 54 = .ok (.goto (-35), 3) := by decide +kernel
theorem dX9_lag_57 : decode cX9_lag 57 = .ok (.iinc 3 1, 3) := by decide +kernel
theorem dX9_lag_60 : decode cX9_lag 60 = .ok (.goto (-56), 3) := by decide +kernel
theorem dX9_lag_63 : decode cX9_lag 63 = .ok (.iload_n 2, 1) := by decide +kernel
theorem dX9_lag_64 : decode cX9_lag 64 = .ok (.ireturn, 1) := by decide +kernel
theorem dX9_member_0 : decode cX9_member 0 = .ok (.iload_n 1, 1) := by decide +kernel
theorem dX9_member_1 : decode cX9_member 1 = .ok (.invokestatic 89, 3) := by decide +kernel
theorem dX9_member_4 : decode cX9_member 4 = .ok (.ifCond .eq 12, 3) := by decide +kernel
theorem dX9_member_7 : decode cX9_member 7 = .ok (.iload_n 2, 1) := by decide +kernel
theorem dX9_member_8 : decode cX9_member 8 = .ok (.iconst 0, 1) := by decide +kernel
theorem dX9_member_9 : decode cX9_member 9 = .ok (.iconst 2, 1) := by decide +kernel
theorem dX9_member_10 : decode cX9_member 10 = .ok (.invokestatic 55, 3) := by decide +kernel
theorem dX9_member_13 : decode cX9_member 13 = .ok (.ifCond .ne 5, 3) := by decide +kernel
theorem dX9_member_16 : decode cX9_member 16 = .ok (.iconst (-1), 1) := by decide +kernel
theorem dX9_member_17 : decode cX9_member 17 = .ok (.ireturn, 1) := by decide +kernel
theorem dX9_member_18 : decode cX9_member 18 = .ok (.iload_n 2, 1) := by decide +kernel
theorem dX9_member_19 : decode cX9_member 19 = .ok (.ifCond .ne 19, 3) := by decide +kernel
theorem dX9_member_22 : decode cX9_member 22 = .ok (.aload_n 0, 1) := by decide +kernel
theorem dX9_member_23 : decode cX9_member 23 = .ok (.iload_n 1, 1) := by decide +kernel
theorem dX9_member_24 : decode cX9_member 24 = .ok (.invokevirtual 202, 3) := by decide +kernel
theorem dX9_member_27 : decode cX9_member 27 = .ok (.ifCond .eq 7, 3) := by decide +kernel
theorem dX9_member_30 : decode cX9_member 30 = .ok (.iconst 1, 1) := by decide +kernel
theorem dX9_member_31 : decode cX9_member 31 = .ok (.goto 25, 3) := by decide +kernel
theorem dX9_member_34 : decode cX9_member 34 = .ok (.iconst 0, 1) := by decide +kernel
theorem dX9_member_35 : decode cX9_member 35 = .ok (.goto 21, 3) := by decide +kernel
theorem dX9_member_38 : decode cX9_member 38 = .ok (.iload_n 2, 1) := by decide +kernel
theorem dX9_member_39 : decode cX9_member 39 = .ok (.iconst 1, 1) := by decide +kernel
theorem dX9_member_40 : decode cX9_member 40 = .ok (.if_icmp .ne 11, 3) := by decide +kernel
theorem dX9_member_43 : decode cX9_member 43 = .ok (.aload_n 0, 1) := by decide +kernel
theorem dX9_member_44 : decode cX9_member 44 = .ok (.iload_n 1, 1) := by decide +kernel
theorem dX9_member_45 : decode cX9_member 45 = .ok (.invokevirtual 205, 3) := by decide +kernel
theorem dX9_member_48 : decode cX9_member 48 = .ok (.goto 8, 3) := by decide +kernel
theorem dX9_member_51 : decode cX9_member 51 = .ok (.aload_n 0, 1) := by decide +kernel
theorem dX9_member_52 : decode cX9_member 52 = .ok (.iload_n 1, 1) := by decide +kernel
theorem dX9_member_53 : decode cX9_member 53 = .ok (.invokevirtual 227, 3) := by decide +kernel
theorem dX9_member_56 : decode cX9_member 56 = .ok (.ireturn, 1) := by decide +kernel
theorem dX9_told_0 : decode cX9_told 0 = .ok (.iload_n 1, 1) := by decide +kernel
theorem dX9_told_1 : decode cX9_told 1 = .ok (.iconst 0, 1) := by decide +kernel
theorem dX9_told_2 : decode cX9_told 2 = .ok (.iconst 5, 1) := by decide +kernel
theorem dX9_told_3 : decode cX9_told 3 = .ok (.invokestatic 55, 3) := by decide +kernel
theorem dX9_told_6 : decode cX9_told 6 = .ok (.ifCond .eq 16, 3) := by decide +kernel
theorem dX9_told_9 : decode cX9_told 9 = .ok (.aload_n 0, 1) := by decide +kernel
theorem dX9_told_10 : decode cX9_told 10 = .ok (.getfield 11, 3) := by decide +kernel
theorem dX9_told_13 : decode cX9_told 13 = .ok (.sipush 5096, 3) := by decide +kernel
theorem dX9_told_16 : decode cX9_told 16 = .ok (.iload_n 1, 1) := by decide +kernel
theorem dX9_told_17 : decode cX9_told 17 = .ok (.iadd, 1) := by decide +kernel
theorem dX9_told_18 : decode cX9_told 18 = .ok (.iaload, 1) := by decide +kernel
theorem dX9_told_19 : decode cX9_told 19 = .ok (.goto 4, 3) := by decide +kernel
theorem dX9_told_22 : decode cX9_told 22 = .ok (.iconst (-1), 1) := by decide +kernel
theorem dX9_told_23 : decode cX9_told 23 = .ok (.ireturn, 1) := by decide +kernel
theorem dX9_common_0 : decode cX9_common 0 = .ok (.iload_n 0, 1) := by decide +kernel
theorem dX9_common_1 : decode cX9_common 1 = .ok (.istore_n 2, 1) := by decide +kernel
theorem dX9_common_2 : decode cX9_common 2 = .ok (.iload_n 1, 1) := by decide +kernel
theorem dX9_common_3 : decode cX9_common 3 = .ok (.istore_n 3, 1) := by decide +kernel
theorem dX9_common_4 : decode cX9_common 4 = .ok (.iload_n 3, 1) := by decide +kernel
theorem dX9_common_5 : decode cX9_common 5 = .ok (.ifCond .eq 16, 3) := by decide +kernel
theorem dX9_common_8 : decode cX9_common 8 = .ok (.iload_n 2, 1) := by decide +kernel
theorem dX9_common_9 : decode cX9_common 9 = .ok (.iload_n 3, 1) := by decide +kernel
theorem dX9_common_10 : decode cX9_common 10 = .ok (.irem, 1) := by decide +kernel
theorem dX9_common_11 : decode cX9_common 11 = .ok (.istore 4, 2) := by decide +kernel
theorem dX9_common_13 : decode cX9_common 13 = .ok (.iload_n 3, 1) := by decide +kernel
theorem dX9_common_14 : decode cX9_common 14 = .ok (.istore_n 2, 1) := by decide +kernel
theorem dX9_common_15 : decode cX9_common 15 = .ok (.iload 4, 2) := by decide +kernel
theorem dX9_common_17 : decode cX9_common 17 = .ok (.istore_n 3, 1) := by decide +kernel
theorem dX9_common_18 : decode cX9_common 18 = .ok (.goto (-14), 3) := by decide +kernel
theorem dX9_common_21 : decode cX9_common 21 = .ok (.iload_n 2, 1) := by decide +kernel
theorem dX9_common_22 : decode cX9_common 22 = .ok (.ireturn, 1) := by decide +kernel
theorem dX9_odds_0 : decode cX9_odds 0 = .ok (.iload_n 1, 1) := by decide +kernel
theorem dX9_odds_1 : decode cX9_odds 1 = .ok (.invokestatic 89, 3) := by decide +kernel
theorem dX9_odds_4 : decode cX9_odds 4 = .ok (.ifCond .eq 12, 3) := by decide +kernel
theorem dX9_odds_7 : decode cX9_odds 7 = .ok (.iload_n 2, 1) := by decide +kernel
theorem dX9_odds_8 : decode cX9_odds 8 = .ok (.iconst 0, 1) := by decide +kernel
theorem dX9_odds_9 : decode cX9_odds 9 = .ok (.iconst 1, 1) := by decide +kernel
theorem dX9_odds_10 : decode cX9_odds 10 = .ok (.invokestatic 55, 3) := by decide +kernel
theorem dX9_odds_13 : decode cX9_odds 13 = .ok (.ifCond .ne 7, 3) := by decide +kernel
theorem dX9_odds_16 : decode cX9_odds 16 = .ok (.ldc2_w 168, 3) := by decide +kernel
theorem dX9_odds_19 : decode cX9_odds 19 = .ok (.lreturn, 1) := by decide +kernel
theorem dX9_odds_20 : decode cX9_odds 20 = .ok (.aload_n 0, 1) := by decide +kernel
theorem dX9_odds_21 : decode cX9_odds 21 = .ok (.getfield 11, 3) := by decide +kernel
theorem dX9_odds_24 : decode cX9_odds 24 = .ok (.aload_n 0, 1) := by decide +kernel
theorem dX9_odds_25 : decode cX9_odds 25 = .ok (.getfield 15, 3) := by decide +kernel
theorem dX9_odds_28 : decode cX9_odds 28 = .ok (.invokestatic 198, 3) := by decide +kernel
theorem dX9_odds_31 : decode cX9_odds 31 = .ok (.iconst 0, 1) := by decide +kernel
theorem dX9_odds_32 : decode cX9_odds 32 = .ok (.istore_n 3, 1) := by decide +kernel
theorem dX9_odds_33 : decode cX9_odds 33 = .ok (.iconst 0, 1) := by decide +kernel
theorem dX9_odds_34 : decode cX9_odds 34 = .ok (.istore 4, 2) := by decide +kernel
theorem dX9_odds_36 : decode cX9_odds 36 = .ok (.iload 4, 2) := by decide +kernel
theorem dX9_odds_38 : decode cX9_odds 38 = .ok (.bipush 100, 2) := by decide +kernel
theorem dX9_odds_40 : decode cX9_odds 40 = .ok (.if_icmp .ge 46, 3) := by decide +kernel
theorem dX9_odds_43 : decode cX9_odds 43 = .ok (.aload_n 0, 1) := by decide +kernel
theorem dX9_odds_44 : decode cX9_odds 44 = .ok (.getfield 11, 3) := by decide +kernel
theorem dX9_odds_47 : decode cX9_odds 47 = .ok (.sipush 5098, 3) := by decide +kernel
theorem dX9_odds_50 : decode cX9_odds 50 = .ok (.iload 4, 2) := by decide +kernel
theorem dX9_odds_52 : decode cX9_odds 52 = .ok (.iastore, 1) := by decide +kernel
theorem dX9_odds_53 : decode cX9_odds 53 = .ok (.iload_n 3, 1) := by decide +kernel
theorem dX9_odds_54 : decode cX9_odds 54 = .ok (.aload_n 0, 1) := by decide +kernel
theorem dX9_odds_55 : decode cX9_odds 55 = .ok (.iload_n 1, 1) := by decide +kernel
theorem dX9_odds_56 : decode cX9_odds 56 = .ok (.invokevirtual 120, 3) := by decide +kernel
theorem dX9_odds_59 : decode cX9_odds 59 = .ok (.ifCond .ne 7, 3) := by decide +kernel
theorem dX9_odds_62 : decode cX9_odds 62 = .ok (.iconst 1, 1) := by decide +kernel
theorem dX9_odds_63 : decode cX9_odds 63 = .ok (.goto 4, 3) := by decide +kernel
theorem dX9_odds_66 : decode cX9_odds 66 = .ok (.iconst 0, 1) := by decide +kernel
theorem dX9_odds_67 : decode cX9_odds 67 = .ok (.iadd, 1) := by decide +kernel
theorem dX9_odds_68 : decode cX9_odds 68 = .ok (.istore_n 3, 1) := by decide +kernel
theorem dX9_odds_69 : decode cX9_odds 69 = .ok (.aload_n 0, 1) := by decide +kernel
theorem dX9_odds_70 : decode cX9_odds 70 = .ok (.getfield 15, 3) := by decide +kernel
theorem dX9_odds_73 : decode cX9_odds 73 = .ok (.aload_n 0, 1) := by decide +kernel
theorem dX9_odds_74 : decode cX9_odds 74 = .ok (.getfield 11, 3) := by decide +kernel
theorem dX9_odds_77 : decode cX9_odds 77 = .ok (.invokestatic 198, 3) := by decide +kernel
theorem dX9_odds_80 : decode cX9_odds 80 = .ok (.iinc 4 5, 3) := by decide +kernel
theorem dX9_odds_83 : decode cX9_odds 83 = .ok (.goto (-47), 3) := by decide +kernel
theorem dX9_odds_86 : decode cX9_odds 86 = .ok (.iload_n 3, 1) := by decide +kernel
theorem dX9_odds_87 : decode cX9_odds 87 = .ok (.bipush 20, 2) := by decide +kernel
theorem dX9_odds_89 : decode cX9_odds 89 = .ok (.invokestatic 230, 3) := by decide +kernel
theorem dX9_odds_92 : decode cX9_odds 92 = .ok (.istore 4, 2) := by decide +kernel
theorem dX9_odds_94 : decode cX9_odds 94 = .ok (.iload_n 2, 1) := by decide +kernel
theorem dX9_odds_95 : decode cX9_odds 95 = .ok (.ifCond .ne 11, 3) := by decide +kernel
theorem dX9_odds_98 : decode cX9_odds 98 = .ok (.iload_n 3, 1) := by decide +kernel
theorem dX9_odds_99 : decode cX9_odds 99 = .ok (.iload 4, 2) := by decide +kernel
theorem dX9_odds_101 : decode cX9_odds 101 = .ok (.idiv, 1) := by decide +kernel
theorem dX9_odds_102 : decode cX9_odds 102 = .ok (.i2l, 1) := by decide +kernel
theorem dX9_odds_103 : decode cX9_odds 103 = .ok (.goto 9, 3) := by decide +kernel
theorem dX9_odds_106 : decode cX9_odds 106 = .ok (.bipush 20, 2) := by decide +kernel
theorem dX9_odds_108 : decode cX9_odds 108 = .ok (.iload 4, 2) := by decide +kernel
theorem dX9_odds_110 : decode cX9_odds 110 = .ok (.idiv, 1) := by decide +kernel
theorem dX9_odds_111 : decode cX9_odds 111 = .ok (.i2l, 1) := by decide +kernel
theorem dX9_odds_112 : decode cX9_odds 112 = .ok (.lreturn, 1) := by decide +kernel
theorem dX9_plan_0 : decode cX9_plan 0 = .ok (.iload_n 1, 1) := by decide +kernel
theorem dX9_plan_1 : decode cX9_plan 1 = .ok (.iconst (-1), 1) := by decide +kernel
theorem dX9_plan_2 : decode cX9_plan 2 = .ok (.if_icmp .ne 14, 3) := by decide +kernel
theorem dX9_plan_5 : decode cX9_plan 5 = .ok (.aload_n 0, 1) := by decide +kernel
theorem dX9_plan_6 : decode cX9_plan 6 = .ok (.getfield 11, 3) := by decide +kernel
theorem dX9_plan_9 : decode cX9_plan 9 = .ok (.sipush 5102, 3) := by decide +kernel
theorem dX9_plan_12 : decode cX9_plan 12 = .ok (.iconst 0, 1) := by decide +kernel
theorem dX9_plan_13 : decode cX9_plan 13 = .ok (.iastore, 1) := by decide +kernel
theorem dX9_plan_14 : decode cX9_plan 14 = .ok (.iconst 0, 1) := by decide +kernel
theorem dX9_plan_15 : decode cX9_plan 15 = .ok (.ireturn, 1) := by decide +kernel
theorem dX9_plan_16 : decode cX9_plan 16 = .ok (.iload_n 1, 1) := by decide +kernel
theorem dX9_plan_17 : decode cX9_plan 17 = .ok (.iconst 0, 1) := by decide +kernel
theorem dX9_plan_18 : decode cX9_plan 18 = .ok (.iconst 3, 1) := by decide +kernel
theorem dX9_plan_19 : decode cX9_plan 19 = .ok (.invokestatic 55, 3) := by decide +kernel
theorem dX9_plan_22 : decode cX9_plan 22 = .ok (.ifCond .eq 15, 3) := by decide +kernel
theorem dX9_plan_25 : decode cX9_plan 25 = .ok (.iload_n 1, 1) := by decide +kernel
theorem dX9_plan_26 : decode cX9_plan 26 = .ok (.iconst 3, 1) := by decide +kernel
theorem dX9_plan_27 : decode cX9_plan 27 = .ok (.if_icmp .ge 12, 3) := by decide +kernel
theorem dX9_plan_30 : decode cX9_plan 30 = .ok (.iload_n 2, 1) := by decide +kernel
theorem dX9_plan_31 : decode cX9_plan 31 = .ok (.invokestatic 89, 3) := by decide +kernel
theorem dX9_plan_34 : decode cX9_plan 34 = .ok (.ifCond .ne 5, 3) := by decide +kernel
theorem dX9_plan_37 : decode cX9_plan 37 = .ok (.iconst (-1), 1) := by decide +kernel
theorem dX9_plan_38 : decode cX9_plan 38 = .ok (.ireturn, 1) := by decide +kernel
theorem dX9_plan_39 : decode cX9_plan 39 = .ok (.iload_n 1, 1) := by decide +kernel
theorem dX9_plan_40 : decode cX9_plan 40 = .ok (.iconst 3, 1) := by decide +kernel
theorem dX9_plan_41 : decode cX9_plan 41 = .ok (.if_icmp .ne 16, 3) := by decide +kernel
theorem dX9_plan_44 : decode cX9_plan 44 = .ok (.iload_n 2, 1) := by decide +kernel
theorem dX9_plan_45 : decode cX9_plan 45 = .ok (.iconst 0, 1) := by decide +kernel
theorem dX9_plan_46 : decode cX9_plan 46 = .ok (.bipush 99, 2) := by decide +kernel
theorem dX9_plan_48 : decode cX9_plan 48 = .ok (.invokestatic 55, 3) := by decide +kernel
theorem dX9_plan_51 : decode cX9_plan 51 = .ok (.ifCond .ne 6, 3) := by decide +kernel
theorem dX9_plan_54 : decode cX9_plan 54 = .ok (.bipush (-2), 2) := by decide +kernel
theorem dX9_plan_56 : decode cX9_plan 56 = .ok (.ireturn, 1) := by decide +kernel
theorem dX9_plan_57 : decode cX9_plan 57 = .ok (.aload_n 0, 1) := by decide +kernel
theorem dX9_plan_58 : decode cX9_plan 58 = .ok (.getfield 11, 3) := by decide +kernel
theorem dX9_plan_61 : decode cX9_plan 61 = .ok (.sipush 5102, 3) := by decide +kernel
theorem dX9_plan_64 : decode cX9_plan 64 = .ok (.iaload, 1) := by decide +kernel
theorem dX9_plan_65 : decode cX9_plan 65 = .ok (.bipush 10, 2) := by decide +kernel
theorem dX9_plan_67 : decode cX9_plan 67 = .ok (.if_icmp .ne 6, 3) := by decide +kernel
theorem dX9_plan_70 : decode cX9_plan 70 = .ok (.bipush (-4), 2) := by decide +kernel
theorem dX9_plan_72 : decode cX9_plan 72 = .ok (.ireturn, 1) := by decide +kernel
theorem dX9_plan_73 : decode cX9_plan 73 = .ok (.aload_n 0, 1) := by decide +kernel
theorem dX9_plan_74 : decode cX9_plan 74 = .ok (.getfield 11, 3) := by decide +kernel
theorem dX9_plan_77 : decode cX9_plan 77 = .ok (.sipush 5103, 3) := by decide +kernel
theorem dX9_plan_80 : decode cX9_plan 80 = .ok (.iconst 2, 1) := by decide +kernel
theorem dX9_plan_81 : decode cX9_plan 81 = .ok (.aload_n 0, 1) := by decide +kernel
theorem dX9_plan_82 : decode cX9_plan 82 = .ok (.getfield 11, 3) := by decide +kernel
theorem dX9_plan_85 : decode cX9_plan 85 = .ok (.sipush 5102, 3) := by decide +kernel
theorem dX9_plan_88 : decode cX9_plan 88 = .ok (.iaload, 1) := by decide +kernel
theorem dX9_plan_89 : decode cX9_plan 89 = .ok (.imul, 1) := by decide +kernel
theorem dX9_plan_90 : decode cX9_plan 90 = .ok (.iadd, 1) := by decide +kernel
theorem dX9_plan_91 : decode cX9_plan 91 = .ok (.iload_n 1, 1) := by decide +kernel
theorem dX9_plan_92 : decode cX9_plan 92 = .ok (.iastore, 1) := by decide +kernel
theorem dX9_plan_93 : decode cX9_plan 93 = .ok (.aload_n 0, 1) := by decide +kernel
theorem dX9_plan_94 : decode cX9_plan 94 = .ok (.getfield 11, 3) := by decide +kernel
theorem dX9_plan_97 : decode cX9_plan 97 = .ok (.sipush 5103, 3) := by decide +kernel
theorem dX9_plan_100 : decode cX9_plan 100 = .ok (.iconst 2, 1) := by decide +kernel
theorem dX9_plan_101 : decode cX9_plan 101 = .ok (.aload_n 0, 1) := by decide +kernel
theorem dX9_plan_102 : decode cX9_plan 102 = .ok (.getfield 11, 3) := by decide +kernel
theorem dX9_plan_105 : decode cX9_plan 105 = .ok (.sipush 5102, 3) := by decide +kernel
theorem dX9_plan_108 : decode cX9_plan 108 = .ok (.iaload, 1) := by decide +kernel
theorem dX9_plan_109 : decode cX9_plan 109 = .ok (.imul, 1) := by decide +kernel
theorem dX9_plan_110 : decode cX9_plan 110 = .ok (.iadd, 1) := by decide +kernel
theorem dX9_plan_111 : decode cX9_plan 111 = .ok (.iconst 1, 1) := by decide +kernel
theorem dX9_plan_112 : decode cX9_plan 112 = .ok (.iadd, 1) := by decide +kernel
theorem dX9_plan_113 : decode cX9_plan 113 = .ok (.iload_n 2, 1) := by decide +kernel
theorem dX9_plan_114 : decode cX9_plan 114 = .ok (.iastore, 1) := by decide +kernel
theorem dX9_plan_115 : decode cX9_plan 115 = .ok (.aload_n 0, 1) := by decide +kernel
theorem dX9_plan_116 : decode cX9_plan 116 = .ok (.getfield 11, 3) := by decide +kernel
theorem dX9_plan_119 : decode cX9_plan 119 = .ok (.sipush 5102, 3) := by decide +kernel
theorem dX9_plan_122 : decode cX9_plan 122 = .ok (.dup2, 1) := by decide +kernel
theorem dX9_plan_123 : decode cX9_plan 123 = .ok (.iaload, 1) := by decide +kernel
theorem dX9_plan_124 : decode cX9_plan 124 = .ok (.iconst 1, 1) := by decide +kernel
theorem dX9_plan_125 : decode cX9_plan 125 = .ok (.iadd, 1) := by decide +kernel
theorem dX9_plan_126 : decode cX9_plan 126 = .ok (.iastore, 1) := by decide +kernel
theorem dX9_plan_127 : decode cX9_plan 127 = .ok (.aload_n 0, 1) := by decide +kernel
theorem dX9_plan_128 : decode cX9_plan 128 = .ok (.getfield 11, 3) := by decide +kernel
theorem dX9_plan_131 : decode cX9_plan 131 = .ok (.sipush 5102, 3) := by decide +kernel
theorem dX9_plan_134 : decode cX9_plan 134 = .ok (.iaload, 1) := by decide +kernel
theorem dX9_plan_135 : decode cX9_plan 135 = .ok (.ireturn, 1) := by decide +kernel
theorem dX9_does_0 : decode cX9_does 0 = .ok (.iload_n 1, 1) := by decide +kernel
theorem dX9_does_1 : decode cX9_does 1 = .ok (.ifCond .ne 12, 3) := by decide +kernel
theorem dX9_does_4 : decode cX9_does 4 = .ok (.aload_n 0, 1) := by decide +kernel
theorem dX9_does_5 : decode cX9_does 5 = .ok (.iload_n 2, 1) := by decide +kernel
theorem dX9_does_6 : decode cX9_does 6 = .ok (.invokevirtual 117, 3) := by decide +kernel
theorem dX9_does_9 : decode cX9_does 9 = .ok (.pop, 1) := by decide +kernel
theorem dX9_does_10 : decode cX9_does 10 = .ok (.goto 51, 3) := by decide +kernel
theorem dX9_does_13 : decode cX9_does 13 = .ok (.iload_n 1, 1) := by decide +kernel
theorem dX9_does_14 : decode cX9_does 14 = .ok (.iconst 1, 1) := by decide +kernel
theorem dX9_does_15 : decode cX9_does 15 = .ok (.if_icmp .ne 12, 3) := by decide +kernel
theorem dX9_does_18 : decode cX9_does 18 = .ok (.aload_n 0, 1) := by decide +kernel
theorem dX9_does_19 : decode cX9_does 19 = .ok (.iload_n 2, 1) := by decide +kernel
theorem dX9_does_20 : decode cX9_does 20 = .ok (.invokevirtual 120, 3) := by decide +kernel
theorem dX9_does_23 : decode cX9_does 23 = .ok (.pop, 1) := by decide +kernel
theorem dX9_does_24 : decode cX9_does 24 = .ok (.goto 37, 3) := by decide +kernel
theorem dX9_does_27 : decode cX9_does 27 = .ok (.iload_n 1, 1) := by decide +kernel
theorem dX9_does_28 : decode cX9_does 28 = .ok (.iconst 3, 1) := by decide +kernel
