theorem dX6_judged_24 : decode cX6_judged 24 = .ok (.ifCond .lt 13, 3) := by decide +kernel
theorem dX6_judged_27 : decode cX6_judged 27 = .ok (.iload_n 3, 1) := by decide +kernel
theorem dX6_judged_28 : decode cX6_judged 28 = .ok (.aload_n 0, 1) := by decide +kernel
theorem dX6_judged_29 : decode cX6_judged 29 = .ok (.getfield 19, 3) := by decide +kernel
theorem dX6_judged_32 : decode cX6_judged 32 = .ok (.iload_n 2, 1) := by decide +kernel
theorem dX6_judged_33 : decode cX6_judged 33 = .ok (.isub, 1) := by decide +kernel
theorem dX6_judged_34 : decode cX6_judged 34 = .ok (.if_icmp .lt 8, 3) := by decide +kernel
theorem dX6_judged_37 : decode cX6_judged 37 = .ok (.bipush 100, 2) := by decide +kernel
theorem dX6_judged_39 : decode cX6_judged 39 = .ok (.iload_n 3, 1) := by decide +kernel
theorem dX6_judged_40 : decode cX6_judged 40 = .ok (.iadd, 1) := by decide +kernel
theorem dX6_judged_41 : decode cX6_judged 41 = .ok (.ireturn, 1) := by decide +kernel
theorem dX6_judged_42 : decode cX6_judged 42 = .ok (.aload_n 0, 1) := by decide +kernel
theorem dX6_judged_43 : decode cX6_judged 43 = .ok (.getfield 9, 3) := by decide +kernel
theorem dX6_judged_46 : decode cX6_judged 46 = .ok (.iload_n 2, 1) := by decide +kernel
theorem dX6_judged_47 : decode cX6_judged 47 = .ok (.iload_n 3, 1) := by decide +kernel
theorem dX6_judged_48 : decode cX6_judged 48 = .ok (.iadd, 1) := by decide +kernel
theorem dX6_judged_49 : decode cX6_judged 49 = .ok (.laload, 1) := by decide +kernel
theorem dX6_judged_50 : decode cX6_judged 50 = .ok (.iload 4, 2) := by decide +kernel
theorem dX6_judged_52 : decode cX6_judged 52 = .ok (.i2l, 1) := by decide +kernel
theorem dX6_judged_53 : decode cX6_judged 53 = .ok (.lcmp, 1) := by decide +kernel
theorem dX6_judged_54 : decode cX6_judged 54 = .ok (.ifCond .eq 5, 3) := by decide +kernel
theorem dX6_judged_57 : decode cX6_judged 57 = .ok (.iload_n 3, 1) := by decide +kernel
theorem dX6_judged_58 : decode cX6_judged 58 = .ok (.ireturn, 1) := by decide +kernel
theorem dX6_judged_59 : decode cX6_judged 59 = .ok (.iinc 3 1, 3) := by decide +kernel
theorem dX6_judged_62 : decode cX6_judged 62 = .ok (.iinc 4 1, 3) := by decide +kernel
theorem dX6_judged_65 : decode cX6_judged 65 = .ok (.goto (-60), 3) := by decide +kernel
theorem dX6_judged_68 : decode cX6_judged 68 = .ok (.bipush (-5), 2) := by decide +kernel
theorem dX6_judged_70 : decode cX6_judged 70 = .ok (.ireturn, 1) := by decide +kernel
theorem dX7_init_0 : decode cX7_init 0 = .ok (.aload_n 0, 1) := by decide +kernel
theorem dX7_init_1 : decode cX7_init 1 = .ok (.invokespecial 1, 3) := by decide +kernel
theorem dX7_init_4 : decode cX7_init 4 = .ok (.aload_n 0, 1) := by decide +kernel
theorem dX7_init_5 : decode cX7_init 5 = .ok (.bipush 100, 2) := by decide +kernel
theorem dX7_init_7 : decode cX7_init 7 = .ok (.newarray .int, 2) := by decide +kernel
theorem dX7_init_9 : decode cX7_init 9 = .ok (.putfield 9, 3) := by decide +kernel
theorem dX7_init_12 : decode cX7_init 12 = .ok (.aload_n 0, 1) := by decide +kernel
theorem dX7_init_13 : decode cX7_init 13 = .ok (.bipush 12, 2) := by decide +kernel
theorem dX7_init_15 : decode cX7_init 15 = .ok (.newarray .int, 2) := by decide +kernel
theorem dX7_init_17 : decode cX7_init 17 = .ok (.putfield 13, 3) := by decide +kernel
theorem dX7_init_20 : decode cX7_init 20 = .ok (.aload_n 0, 1) := by decide +kernel
theorem dX7_init_21 : decode cX7_init 21 = .ok (.bipush 12, 2) := by decide +kernel
theorem dX7_init_23 : decode cX7_init 23 = .ok (.newarray .int, 2) := by decide +kernel
theorem dX7_init_25 : decode cX7_init 25 = .ok (.putfield 16, 3) := by decide +kernel
theorem dX7_init_28 : decode cX7_init 28 = .ok (.aload_n 0, 1) := by decide +kernel
theorem dX7_init_29 : decode cX7_init 29 = .ok (.bipush 12, 2) := by decide +kernel
theorem dX7_init_31 : decode cX7_init 31 = .ok (.newarray .int, 2) := by decide +kernel
theorem dX7_init_33 : decode cX7_init 33 = .ok (.putfield 19, 3) := by decide +kernel
theorem dX7_init_36 : decode cX7_init 36 = .ok (.aload_n 0, 1) := by decide +kernel
theorem dX7_init_37 : decode cX7_init 37 = .ok (.bipush 12, 2) := by decide +kernel
theorem dX7_init_39 : decode cX7_init 39 = .ok (.newarray .int, 2) := by decide +kernel
theorem dX7_init_41 : decode cX7_init 41 = .ok (.putfield 22, 3) := by decide +kernel
theorem dX7_init_44 : decode cX7_init 44 = .ok (.return_, 1) := by decide +kernel
theorem dX7_isFull_0 : decode cX7_isFull 0 = .ok (.aload_n 0, 1) := by decide +kernel
theorem dX7_isFull_1 : decode cX7_isFull 1 = .ok (.getfield 25, 3) := by decide +kernel
theorem dX7_isFull_4 : decode cX7_isFull 4 = .ok (.bipush 100, 2) := by decide +kernel
theorem dX7_isFull_6 : decode cX7_isFull 6 = .ok (.if_icmp .lt 7, 3) := by decide +kernel
theorem dX7_isFull_9 : decode cX7_isFull 9 = .ok (.iconst 1, 1) := by decide +kernel
theorem dX7_isFull_10 : decode cX7_isFull 10 = .ok (.goto 4, 3) := by decide +kernel
theorem dX7_isFull_13 : decode cX7_isFull 13 = .ok (.iconst 0, 1) := by decide +kernel
theorem dX7_isFull_14 : decode cX7_isFull 14 = .ok (.ireturn, 1) := by decide +kernel
theorem dX7_takeSign_0 : decode cX7_takeSign 0 = .ok (.aload_n 0, 1) := by decide +kernel
theorem dX7_takeSign_1 : decode cX7_takeSign 1 = .ok (.getfield 9, 3) := by decide +kernel
theorem dX7_takeSign_4 : decode cX7_takeSign 4 = .ok (.aload_n 0, 1) := by decide +kernel
theorem dX7_takeSign_5 : decode cX7_takeSign 5 = .ok (.getfield 25, 3) := by decide +kernel
theorem dX7_takeSign_8 : decode cX7_takeSign 8 = .ok (.iload_n 1, 1) := by decide +kernel
theorem dX7_takeSign_9 : decode cX7_takeSign 9 = .ok (.iastore, 1) := by decide +kernel
theorem dX7_takeSign_10 : decode cX7_takeSign 10 = .ok (.aload_n 0, 1) := by decide +kernel
theorem dX7_takeSign_11 : decode cX7_takeSign 11 = .ok (.dup, 1) := by decide +kernel
theorem dX7_takeSign_12 : decode cX7_takeSign 12 = .ok (.getfield 25, 3) := by decide +kernel
theorem dX7_takeSign_15 : decode cX7_takeSign 15 = .ok (.iconst 1, 1) := by decide +kernel
theorem dX7_takeSign_16 : decode cX7_takeSign 16 = .ok (.iadd, 1) := by decide +kernel
theorem dX7_takeSign_17 : decode cX7_takeSign 17 = .ok (.putfield 25, 3) := by decide +kernel
theorem dX7_takeSign_20 : decode cX7_takeSign 20 = .ok (.aload_n 0, 1) := by decide +kernel
theorem dX7_takeSign_21 : decode cX7_takeSign 21 = .ok (.getfield 25, 3) := by decide +kernel
theorem dX7_takeSign_24 : decode cX7_takeSign 24 = .ok (.ireturn, 1) := by decide +kernel
theorem dX7_parsed_0 : decode cX7_parsed 0 = .ok (.aload_n 0, 1) := by decide +kernel
theorem dX7_parsed_1 : decode cX7_parsed 1 = .ok (.iconst 0, 1) := by decide +kernel
theorem dX7_parsed_2 : decode cX7_parsed 2 = .ok (.putfield 29, 3) := by decide +kernel
theorem dX7_parsed_5 : decode cX7_parsed 5 = .ok (.aload_n 0, 1) := by decide +kernel
theorem dX7_parsed_6 : decode cX7_parsed 6 = .ok (.iconst 0, 1) := by decide +kernel
theorem dX7_parsed_7 : decode cX7_parsed 7 = .ok (.putfield 32, 3) := by decide +kernel
theorem dX7_parsed_10 : decode cX7_parsed 10 = .ok (.aload_n 0, 1) := by decide +kernel
theorem dX7_parsed_11 : decode cX7_parsed 11 = .ok (.getfield 32, 3) := by decide +kernel
theorem dX7_parsed_14 : decode cX7_parsed 14 = .ok (.bipush 12, 2) := by decide +kernel
theorem dX7_parsed_16 : decode cX7_parsed 16 = .ok (.if_icmp .ge 55, 3) := by decide +kernel
theorem dX7_parsed_19 : decode cX7_parsed 19 = .ok (.aload_n 0, 1) := by decide +kernel
theorem dX7_parsed_20 : decode cX7_parsed 20 = .ok (.invokevirtual 35, 3) := by decide +kernel
theorem dX7_parsed_23 : decode cX7_parsed 23 = .ok (.ifCond .ne 5, 3) := by decide +kernel
theorem dX7_parsed_26 : decode cX7_parsed 26 = .ok (.iconst 0, 1) := by decide +kernel
theorem dX7_parsed_27 : decode cX7_parsed 27 = .ok (.ireturn, 1) := by decide +kernel
theorem dX7_parsed_28 : decode cX7_parsed 28 = .ok (.aload_n 0, 1) := by decide +kernel
theorem dX7_parsed_29 : decode cX7_parsed 29 = .ok (.dup, 1) := by decide +kernel
theorem dX7_parsed_30 : decode cX7_parsed 30 = .ok (.getfield 32, 3) := by decide +kernel
theorem dX7_parsed_33 : decode cX7_parsed 33 = .ok (.iconst 1, 1) := by decide +kernel
theorem dX7_parsed_34 : decode cX7_parsed 34 = .ok (.iadd, 1) := by decide +kernel
theorem dX7_parsed_35 : decode cX7_parsed 35 = .ok (.putfield 32, 3) := by decide +kernel
theorem dX7_parsed_38 : decode cX7_parsed 38 = .ok (.aload_n 0, 1) := by decide +kernel
theorem dX7_parsed_39 : decode cX7_parsed 39 = .ok (.getfield 29, 3) := by decide +kernel
theorem dX7_parsed_42 : decode cX7_parsed 42 = .ok (.aload_n 0, 1) := by decide +kernel
theorem dX7_parsed_43 : decode cX7_parsed 43 = .ok (.getfield 25, 3) := by decide +kernel
theorem dX7_parsed_46 : decode cX7_parsed 46 = .ok (.if_icmp .ne 5, 3) := by decide +kernel
theorem dX7_parsed_49 : decode cX7_parsed 49 = .ok (.iconst 1, 1) := by decide +kernel
theorem dX7_parsed_50 : decode cX7_parsed 50 = .ok (.ireturn, 1) := by decide +kernel
theorem dX7_parsed_51 : decode cX7_parsed 51 = .ok (.aload_n 0, 1) := by decide +kernel
theorem dX7_parsed_52 : decode cX7_parsed 52 = .ok (.getfield 32, 3) := by decide +kernel
theorem dX7_parsed_55 : decode cX7_parsed 55 = .ok (.bipush 12, 2) := by decide +kernel
theorem dX7_parsed_57 : decode cX7_parsed 57 = .ok (.if_icmp .eq 12, 3) := by decide +kernel
theorem dX7_parsed_60 : decode cX7_parsed 60 = .ok (.aload_n 0, 1) := by decide +kernel
theorem dX7_parsed_61 : decode cX7_parsed 61 = .ok (.bipush 59, 2) := by decide +kernel
theorem dX7_parsed_63 : decode cX7_parsed 63 = .ok (.invokevirtual 39, 3) := by decide +kernel
theorem dX7_parsed_66 : decode cX7_parsed 66 = .ok (.ifCond .ne (-56), 3) := by decide +kernel
theorem dX7_parsed_69 : decode cX7_parsed 69 = .ok (.iconst 0, 1) := by decide +kernel
theorem dX7_parsed_70 : decode cX7_parsed 70 = .ok (.ireturn, 1) := by decide +kernel
theorem dX7_parsed_71 : decode cX7_parsed 71 = .ok (.iconst 0, 1) := by decide +kernel
theorem dX7_parsed_72 : decode cX7_parsed 72 = .ok (.ireturn, 1) := by decide +kernel
theorem dX7_clauseParsed_0 : decode cX7_clauseParsed 0 = .ok (.aload_n 0, 1) := by decide +kernel
theorem dX7_clauseParsed_1 : decode cX7_clauseParsed 1 = .ok (.bipush 48, 2) := by decide +kernel
theorem dX7_clauseParsed_3 : decode cX7_clauseParsed 3 = .ok (.bipush 51, 2) := by decide +kernel
theorem dX7_clauseParsed_5 : decode cX7_clauseParsed 5 = .ok (.invokevirtual 43, 3) := by decide +kernel
theorem dX7_clauseParsed_8 : decode cX7_clauseParsed 8 = .ok (.ifCond .ne 5, 3) := by decide +kernel
theorem dX7_clauseParsed_11 : decode cX7_clauseParsed 11 = .ok (.iconst 0, 1) := by decide +kernel
theorem dX7_clauseParsed_12 : decode cX7_clauseParsed 12 = .ok (.ireturn, 1) := by decide +kernel
theorem dX7_clauseParsed_13 : decode cX7_clauseParsed 13 = .ok (.aload_n 0, 1) := by decide +kernel
theorem dX7_clauseParsed_14 : decode cX7_clauseParsed 14 = .ok (.getfield 13, 3) := by decide +kernel
theorem dX7_clauseParsed_17 : decode cX7_clauseParsed 17 = .ok (.aload_n 0, 1) := by decide +kernel
theorem dX7_clauseParsed_18 : decode cX7_clauseParsed 18 = .ok (.getfield 32, 3) := by decide +kernel
theorem dX7_clauseParsed_21 : decode cX7_clauseParsed 21 = .ok (.aload_n 0, 1) := by decide +kernel
theorem dX7_clauseParsed_22 : decode cX7_clauseParsed 22 = .ok (.getfield 9, 3) := by decide +kernel
theorem dX7_clauseParsed_25 : decode cX7_clauseParsed 25 = .ok (.aload_n 0, 1) := by decide +kernel
theorem dX7_clauseParsed_26 : decode cX7_clauseParsed 26 = .ok (.getfield 29, 3) := by decide +kernel
theorem dX7_clauseParsed_29 : decode cX7_clauseParsed 29 = .ok (.iaload, 1) := by decide +kernel
theorem dX7_clauseParsed_30 : decode cX7_clauseParsed 30 = .ok (.bipush 48, 2) := by decide +kernel
theorem dX7_clauseParsed_32 : decode cX7_clauseParsed 32 = .ok (.isub, 1) := by decide +kernel
theorem dX7_clauseParsed_33 : decode cX7_clauseParsed 33 = .ok (.iastore, 1) := by decide +kernel
theorem dX7_clauseParsed_34 : decode cX7_clauseParsed 34 = .ok (.aload_n 0, 1) := by decide +kernel
theorem dX7_clauseParsed_35 : decode cX7_clauseParsed 35 = .ok (.dup, 1) := by decide +kernel
theorem dX7_clauseParsed_36 : decode cX7_clauseParsed 36 = .ok (.getfield 29, 3) := by decide +kernel
theorem dX7_clauseParsed_39 : decode cX7_clauseParsed 39 = .ok (.iconst 1, 1) := by decide +kernel
theorem dX7_clauseParsed_40 : decode cX7_clauseParsed 40 = .ok (.iadd, 1) := by decide +kernel
theorem dX7_clauseParsed_41 : decode cX7_clauseParsed 41 = .ok (.putfield 29, 3) := by decide +kernel
theorem dX7_clauseParsed_44 : decode cX7_clauseParsed 44 = .ok (.aload_n 0, 1) := by decide +kernel
theorem dX7_clauseParsed_45 : decode cX7_clauseParsed 45 = .ok (.bipush 97, 2) := by decide +kernel
theorem dX7_clauseParsed_47 : decode cX7_clauseParsed 47 = .ok (.bipush 122, 2) := by decide +kernel
theorem dX7_clauseParsed_49 : decode cX7_clauseParsed 49 = .ok (.invokevirtual 43, 3) := by decide +kernel
theorem dX7_clauseParsed_52 : decode cX7_clauseParsed 52 = .ok (.ifCond .ne 5, 3) := by decide +kernel
theorem dX7_clauseParsed_55 : decode cX7_clauseParsed 55 = .ok (.iconst 0, 1) := by decide +kernel
theorem dX7_clauseParsed_56 : decode cX7_clauseParsed 56 = .ok (.ireturn, 1) := by decide +kernel
theorem dX7_clauseParsed_57 : decode cX7_clauseParsed 57 = .ok (.aload_n 0, 1) := by decide +kernel
theorem dX7_clauseParsed_58 : decode cX7_clauseParsed 58 = .ok (.getfield 16, 3) := by decide +kernel
theorem dX7_clauseParsed_61 : decode cX7_clauseParsed 61 = .ok (.aload_n 0, 1) := by decide +kernel
theorem dX7_clauseParsed_62 : decode cX7_clauseParsed 62 = .ok (.getfield 32, 3) := by decide +kernel
theorem dX7_clauseParsed_65 : decode cX7_clauseParsed 65 = .ok (.aload_n 0, 1) := by decide +kernel
theorem dX7_clauseParsed_66 : decode cX7_clauseParsed 66 = .ok (.getfield 9, 3) := by decide +kernel
theorem dX7_clauseParsed_69 : decode cX7_clauseParsed 69 = .ok (.aload_n 0, 1) := by decide +kernel
theorem dX7_clauseParsed_70 : decode cX7_clauseParsed 70 = .ok (.getfield 29, 3) := by decide +kernel
theorem dX7_clauseParsed_73 : decode cX7_clauseParsed 73 = .ok (.iaload, 1) := by decide +kernel
theorem dX7_clauseParsed_74 : decode cX7_clauseParsed 74 = .ok (.bipush 97, 2) := by decide +kernel
theorem dX7_clauseParsed_76 : decode cX7_clauseParsed 76 = .ok (.isub, 1) := by decide +kernel
theorem dX7_clauseParsed_77 : decode cX7_clauseParsed 77 = .ok (.iastore, 1) := by decide +kernel
theorem dX7_clauseParsed_78 : decode cX7_clauseParsed 78 = .ok (.aload_n 0, 1) := by decide +kernel
theorem dX7_clauseParsed_79 : decode cX7_clauseParsed 79 = .ok (.dup, 1) := by decide +kernel
theorem dX7_clauseParsed_80 : decode cX7_clauseParsed 80 = .ok (.getfield 29, 3) := by decide +kernel
theorem dX7_clauseParsed_83 : decode cX7_clauseParsed 83 = .ok (.iconst 1, 1) := by decide +kernel
theorem dX7_clauseParsed_84 : decode cX7_clauseParsed 84 = .ok (.iadd, 1) := by decide +kernel
theorem dX7_clauseParsed_85 : decode cX7_clauseParsed 85 = .ok (.putfield 29, 3) := by decide +kernel
theorem dX7_clauseParsed_88 : decode cX7_clauseParsed 88 = .ok (.aload_n 0, 1) := by decide +kernel
theorem dX7_clauseParsed_89 : decode cX7_clauseParsed 89 = .ok (.bipush 45, 2) := by decide +kernel
theorem dX7_clauseParsed_91 : decode cX7_clauseParsed 91 = .ok (.invokevirtual 39, 3) := by decide +kernel
theorem dX7_clauseParsed_94 : decode cX7_clauseParsed 94 = .ok (.ifCond .eq 25, 3) := by decide +kernel
theorem dX7_clauseParsed_97 : decode cX7_clauseParsed 97 = .ok (.aload_n 0, 1) := by decide +kernel
theorem dX7_clauseParsed_98 : decode cX7_clauseParsed 98 = .ok (.getfield 19, 3) := by decide +kernel
theorem dX7_clauseParsed_101 : decode cX7_clauseParsed 101 = .ok (.aload_n 0, 1) := by decide +kernel
theorem dX7_clauseParsed_102 : decode cX7_clauseParsed 102 = .ok (.getfield 32, 3) := by decide +kernel
theorem dX7_clauseParsed_105 : decode cX7_clauseParsed 105 = .ok (.iconst 2, 1) := by decide +kernel
theorem dX7_clauseParsed_106 : decode cX7_clauseParsed 106 = .ok (.iastore, 1) := by decide +kernel
theorem dX7_clauseParsed_107 : decode cX7_clauseParsed 107 = .ok (.aload_n 0, 1) := by decide +kernel
theorem dX7_clauseParsed_108 : decode cX7_clauseParsed 108 = .ok (.getfield 22, 3) := by decide +kernel
theorem dX7_clauseParsed_111 : decode cX7_clauseParsed 111 = .ok (.aload_n 0, 1) := by decide +kernel
theorem dX7_clauseParsed_112 : decode cX7_clauseParsed 112 = .ok (.getfield 32, 3) := by decide +kernel
theorem dX7_clauseParsed_115 : decode cX7_clauseParsed 115 = .ok (.iconst 0, 1) := by decide +kernel
theorem dX7_clauseParsed_116 : decode cX7_clauseParsed 116 = .ok (.iastore, 1) := by decide +kernel
theorem dX7_clauseParsed_117 : decode cX7_clauseParsed 117 = .ok (.iconst 1, 1) := by decide +kernel
theorem dX7_clauseParsed_118 : decode cX7_clauseParsed 118 = .ok (.ireturn, 1) := by decide +kernel
theorem dX7_clauseParsed_119 : decode cX7_clauseParsed 119 = .ok (.aload_n 0, 1) := by decide +kernel
theorem dX7_clauseParsed_120 : decode cX7_clauseParsed 120 = .ok (.getfield 19, 3) := by decide +kernel
theorem dX7_clauseParsed_123 : decode cX7_clauseParsed 123 = .ok (.aload_n 0, 1) := by decide +kernel
theorem dX7_clauseParsed_124 : decode cX7_clauseParsed 124 = .ok (.getfield 32, 3) := by decide +kernel
theorem dX7_clauseParsed_127 : decode cX7_clauseParsed 127 = .ok (.iconst 1, 1) := by decide +kernel
theorem dX7_clauseParsed_128 : decode cX7_clauseParsed 128 = .ok (.iastore, 1) := by decide +kernel
theorem dX7_clauseParsed_129 : decode cX7_clauseParsed 129 = .ok (.aload_n 0, 1) := by decide +kernel
theorem dX7_clauseParsed_130 : decode cX7_clauseParsed 130 = .ok (.bipush 61, 2) := by decide +kernel
theorem dX7_clauseParsed_132 : decode cX7_clauseParsed 132 = .ok (.invokevirtual 39, 3) := by decide +kernel
theorem dX7_clauseParsed_135 : decode cX7_clauseParsed 135 = .ok (.ifCond .eq 14, 3) := by decide +kernel
theorem dX7_clauseParsed_138 : decode cX7_clauseParsed 138 = .ok (.aload_n 0, 1) := by decide +kernel
theorem dX7_clauseParsed_139 : decode cX7_clauseParsed 139 = .ok (.invokevirtual 49, 3) := by decide +kernel
theorem dX7_clauseParsed_142 : decode cX7_clauseParsed 142 = .ok (.ifCond .eq 7, 3) := by decide +kernel
theorem dX7_clauseParsed_145 : decode cX7_clauseParsed 145 = .ok (.iconst 1, 1) := by decide +kernel
theorem dX7_clauseParsed_146 : decode cX7_clauseParsed 146 = .ok (.goto 4, 3) := by decide +kernel
theorem dX7_clauseParsed_149 : decode cX7_clauseParsed 149 = .ok (.iconst 0, 1) := by decide +kernel
theorem dX7_clauseParsed_150 : decode cX7_clauseParsed 150 = .ok (.ireturn, 1) := by decide +kernel
theorem dX7_valueParsed_0 : decode cX7_valueParsed 0 = .ok (.aload_n 0, 1) := by decide +kernel
theorem dX7_valueParsed_1 : decode cX7_valueParsed 1 = .ok (.bipush 45, 2) := by decide +kernel
theorem dX7_valueParsed_3 : decode cX7_valueParsed 3 = .ok (.invokevirtual 39, 3) := by decide +kernel
theorem dX7_valueParsed_6 : decode cX7_valueParsed 6 = .ok (.istore_n 1, 1) := by decide +kernel
theorem dX7_valueParsed_7 : decode cX7_valueParsed 7 = .ok (.aload_n 0, 1) := by decide +kernel
theorem dX7_valueParsed_8 : decode cX7_valueParsed 8 = .ok (.bipush 48, 2) := by decide +kernel
theorem dX7_valueParsed_10 : decode cX7_valueParsed 10 = .ok (.bipush 57, 2) := by decide +kernel
theorem dX7_valueParsed_12 : decode cX7_valueParsed 12 = .ok (.invokevirtual 43, 3) := by decide +kernel
theorem dX7_valueParsed_15 : decode cX7_valueParsed 15 = .ok (.ifCond .ne 5, 3) := by decide +kernel
theorem dX7_valueParsed_18 : decode cX7_valueParsed 18 = .ok (.iconst 0, 1) := by decide +kernel
theorem dX7_valueParsed_19 : decode cX7_valueParsed 19 = .ok (.ireturn, 1) := by decide +kernel
theorem dX7_valueParsed_20 : decode cX7_valueParsed 20 = .ok (.aload_n 0, 1) := by decide +kernel
theorem dX7_valueParsed_21 : decode cX7_valueParsed 21 = .ok (.iconst 4, 1) := by decide +kernel
theorem dX7_valueParsed_22 : decode cX7_valueParsed 22 = .ok (.invokevirtual 52, 3) := by decide +kernel
theorem dX7_valueParsed_25 : decode cX7_valueParsed 25 = .ok (.istore_n 2, 1) := by decide +kernel
theorem dX7_valueParsed_26 : decode cX7_valueParsed 26 = .ok (.iconst 1, 1) := by decide +kernel
theorem dX7_valueParsed_27 : decode cX7_valueParsed 27 = .ok (.istore_n 3, 1) := by decide +kernel
theorem dX7_valueParsed_28 : decode cX7_valueParsed 28 = .ok (.aload_n 0, 1) := by decide +kernel
theorem dX7_valueParsed_29 : decode cX7_valueParsed 29 = .ok (.bipush 47, 2) := by decide +kernel
theorem dX7_valueParsed_31 : decode cX7_valueParsed 31 = .ok (.invokevirtual 39, 3) := by decide +kernel
theorem dX7_valueParsed_34 : decode cX7_valueParsed 34 = .ok (.ifCond .eq 22, 3) := by decide +kernel
theorem dX7_valueParsed_37 : decode cX7_valueParsed 37 = .ok (.aload_n 0, 1) := by decide +kernel
theorem dX7_valueParsed_38 : decode cX7_valueParsed 38 = .ok (.bipush 48, 2) := by decide +kernel
theorem dX7_valueParsed_40 : decode cX7_valueParsed 40 = .ok (.bipush 57, 2) := by decide +kernel
theorem dX7_valueParsed_42 : decode cX7_valueParsed 42 = .ok (.invokevirtual 43, 3) := by decide +kernel
theorem dX7_valueParsed_45 : decode cX7_valueParsed 45 = .ok (.ifCond .ne 5, 3) := by decide +kernel
theorem dX7_valueParsed_48 : decode cX7_valueParsed 48 = .ok (.iconst 0, 1) := by decide +kernel
theorem dX7_valueParsed_49 : decode cX7_valueParsed 49 = .ok (.ireturn, 1) := by decide +kernel
theorem dX7_valueParsed_50 : decode cX7_valueParsed 50 = .ok (.aload_n 0, 1) := by decide +kernel
theorem dX7_valueParsed_51 : decode cX7_valueParsed 51 = .ok (.iconst 2, 1) := by decide +kernel
theorem dX7_valueParsed_52 : decode cX7_valueParsed 52 = .ok (.invokevirtual 52, 3) := by decide +kernel
theorem dX7_valueParsed_55 : decode cX7_valueParsed 55 = .ok (.istore_n 3, 1) := by decide +kernel
theorem dX7_valueParsed_56 : decode cX7_valueParsed 56 = .ok (.aload_n 0, 1) := by decide +kernel
theorem dX7_valueParsed_57 : decode cX7_valueParsed 57 = .ok (.getfield 22, 3) := by decide +kernel
theorem dX7_valueParsed_60 : decode cX7_valueParsed 60 = .ok (.aload_n 0, 1) := by decide +kernel
theorem dX7_valueParsed_61 : decode cX7_valueParsed 61 = .ok (.getfield 32, 3) := by decide +kernel
theorem dX7_valueParsed_64 : decode cX7_valueParsed 64 = .ok (.iload_n 1, 1) := by decide +kernel
theorem dX7_valueParsed_65 : decode cX7_valueParsed 65 = .ok (.ifCond .eq 8, 3) := by decide +kernel
theorem dX7_valueParsed_68 : decode cX7_valueParsed 68 = .ok (.iload_n 2, 1) := by decide +kernel
theorem dX7_valueParsed_69 : decode cX7_valueParsed 69 = .ok (.ineg, 1) := by decide +kernel
theorem dX7_valueParsed_70 : decode cX7_valueParsed 70 = .ok (.goto 4, 3) := by decide +kernel
theorem dX7_valueParsed_73 : decode cX7_valueParsed 73 = .ok (.iload_n 2, 1) := by decide +kernel
theorem dX7_valueParsed_74 : decode cX7_valueParsed 74 = .ok (.iload_n 3, 1) := by decide +kernel
theorem dX7_valueParsed_75 : decode cX7_valueParsed 75 = .ok (.invokestatic 56, 3) := by decide +kernel
theorem dX7_valueParsed_78 : decode cX7_valueParsed 78 = .ok (.iastore, 1) := by decide +kernel
theorem dX7_valueParsed_79 : decode cX7_valueParsed 79 = .ok (.iconst 1, 1) := by decide +kernel
theorem dX7_valueParsed_80 : decode cX7_valueParsed 80 = .ok (.ireturn, 1) := by decide +kernel
theorem dX7_digits_0 : decode cX7_digits 0 = .ok (.iconst 0, 1) := by decide +kernel
theorem dX7_digits_1 : decode cX7_digits 1 = .ok (.istore_n 2, 1) := by decide +kernel
theorem dX7_digits_2 : decode cX7_digits 2 = .ok (.iconst 0, 1) := by decide +kernel
theorem dX7_digits_3 : decode cX7_digits 3 = .ok (.istore_n 3, 1) := by decide +kernel
theorem dX7_digits_4 : decode cX7_digits 4 = .ok (.iload_n 3, 1) := by decide +kernel
theorem dX7_digits_5 : decode cX7_digits 5 = .ok (.iload_n 1, 1) := by decide +kernel
theorem dX7_digits_6 : decode cX7_digits 6 = .ok (.if_icmp .ge 48, 3) := by decide +kernel
theorem dX7_digits_9 : decode cX7_digits 9 = .ok (.aload_n 0, 1) := by decide +kernel
theorem dX7_digits_10 : decode cX7_digits 10 = .ok (.bipush 48, 2) := by decide +kernel
theorem dX7_digits_12 : decode cX7_digits 12 = .ok (.bipush 57, 2) := by decide +kernel
theorem dX7_digits_14 : decode cX7_digits 14 = .ok (.invokevirtual 43, 3) := by decide +kernel
theorem dX7_digits_17 : decode cX7_digits 17 = .ok (.ifCond .eq 37, 3) := by decide +kernel
theorem dX7_digits_20 : decode cX7_digits 20 = .ok (.bipush 10, 2) := by decide +kernel
theorem dX7_digits_22 : decode cX7_digits 22 = .ok (.iload_n 2, 1) := by decide +kernel
theorem dX7_digits_23 : decode cX7_digits 23 = .ok (.imul, 1) := by decide +kernel
theorem dX7_digits_24 : decode cX7_digits 24 = .ok (.aload_n 0, 1) := by decide +kernel
theorem dX7_digits_25 : decode cX7_digits 25 = .ok (.getfield 9, 3) := by decide +kernel
theorem dX7_digits_28 : decode cX7_digits 28 = .ok (.aload_n 0, 1) := by decide +kernel
theorem dX7_digits_29 : decode cX7_digits 29 = .ok (.getfield 29, 3) := by decide +kernel
theorem dX7_digits_32 : decode cX7_digits 32 = .ok (.iaload, 1) := by decide +kernel
theorem dX7_digits_33 : decode cX7_digits 33 = .ok (.iadd, 1) := by decide +kernel
theorem dX7_digits_34 : decode cX7_digits 34 = .ok (.bipush 48, 2) := by decide +kernel
theorem dX7_digits_36 : decode cX7_digits 36 = .ok (.isub, 1) := by decide +kernel
theorem dX7_digits_37 : decode cX7_digits 37 = .ok (.istore_n 2, 1) := by decide +kernel
theorem dX7_digits_38 : decode cX7_digits 38 = .ok (.aload_n 0, 1) := by decide +kernel
theorem dX7_digits_39 : decode cX7_digits 39 = .ok (.dup, 1) := by decide +kernel
theorem dX7_digits_40 : decode cX7_digits 40 = .ok (.getfield 29, 3) := by decide +kernel
theorem dX7_digits_43 : decode cX7_digits 43 = .ok (.iconst 1, 1) := by decide +kernel
theorem dX7_digits_44 : decode cX7_digits 44 = .ok (.iadd, 1) := by decide +kernel
theorem dX7_digits_45 : decode cX7_digits 45 = .ok (.putfield 29, 3) := by decide +kernel
theorem dX7_digits_48 : decode cX7_digits 48 = .ok (.iinc 3 1, 3) := by decide +kernel
theorem dX7_digits_51 : decode cX7_digits 51 = .ok (.goto (-47), 3) := by decide +kernel
theorem dX7_digits_54 : decode cX7_digits 54 = .ok (.iload_n 2, 1) := by decide +kernel
theorem dX7_digits_55 : decode cX7_digits 55 = .ok (.ireturn, 1) := by decide +kernel
theorem dX7_isBetween_0 : decode cX7_isBetween 0 = .ok (.aload_n 0, 1) := by decide +kernel
theorem dX7_isBetween_1 : decode cX7_isBetween 1 = .ok (.getfield 29, 3) := by decide +kernel
theorem dX7_isBetween_4 : decode cX7_isBetween 4 = .ok (.aload_n 0, 1) := by decide +kernel
theorem dX7_isBetween_5 : decode cX7_isBetween 5 = .ok (.getfield 25, 3) := by decide +kernel
theorem dX7_isBetween_8 : decode cX7_isBetween 8 = .ok (.if_icmp .ge 33, 3) := by decide +kernel
theorem dX7_isBetween_11 : decode cX7_isBetween 11 = .ok (.aload_n 0, 1) := by decide +kernel
theorem dX7_isBetween_12 : decode cX7_isBetween 12 = .ok (.getfield 9, 3) := by decide +kernel
theorem dX7_isBetween_15 : decode cX7_isBetween 15 = .ok (.aload_n 0, 1) := by decide +kernel
theorem dX7_isBetween_16 : decode cX7_isBetween 16 = .ok (.getfield 29, 3) := by decide +kernel
theorem dX7_isBetween_19 : decode cX7_isBetween 19 = .ok (.iaload, 1) := by decide +kernel
theorem dX7_isBetween_20 : decode cX7_isBetween 20 = .ok (.iload_n 1, 1) := by decide +kernel
theorem dX7_isBetween_21 : decode cX7_isBetween 21 = .ok (.if_icmp .lt 20, 3) := by decide +kernel
theorem dX7_isBetween_24 : decode cX7_isBetween 24 = .ok (.aload_n 0, 1) := by decide +kernel
theorem dX7_isBetween_25 : decode cX7_isBetween 25 = .ok (.getfield 9, 3) := by decide +kernel
theorem dX7_isBetween_28 : decode cX7_isBetween 28 = .ok (.aload_n 0, 1) := by decide +kernel
theorem dX7_isBetween_29 : decode cX7_isBetween 29 = .ok (.getfield 29, 3) := by decide +kernel
theorem dX7_isBetween_32 : decode cX7_isBetween 32 = .ok (.iaload, 1) := by decide +kernel
theorem dX7_isBetween_33 : decode cX7_isBetween 33 = .ok (.iload_n 2, 1) := by decide +kernel
theorem dX7_isBetween_34 : decode cX7_isBetween 34 = .ok (.if_icmp .gt 7, 3) := by decide +kernel
theorem dX7_isBetween_37 : decode cX7_isBetween 37 = .ok (.iconst 1, 1) := by decide +kernel
theorem dX7_isBetween_38 : decode cX7_isBetween 38 = .ok (.goto 4, 3) := by decide +kernel
theorem dX7_isBetween_41 : decode cX7_isBetween 41 = .ok (.iconst 0, 1) := by decide +kernel
theorem dX7_isBetween_42 : decode cX7_isBetween 42 = .ok (.ireturn, 1) := by decide +kernel
theorem dX7_skipped_0 : decode cX7_skipped 0 = .ok (.aload_n 0, 1) := by decide +kernel
theorem dX7_skipped_1 : decode cX7_skipped 1 = .ok (.iload_n 1, 1) := by decide +kernel
theorem dX7_skipped_2 : decode cX7_skipped 2 = .ok (.iload_n 1, 1) := by decide +kernel
theorem dX7_skipped_3 : decode cX7_skipped 3 = .ok (.invokevirtual 43, 3) := by decide +kernel
theorem dX7_skipped_6 : decode cX7_skipped 6 = .ok (.ifCond .ne 5, 3) := by decide +kernel
theorem dX7_skipped_9 : decode cX7_skipped 9 = .ok (.iconst 0, 1) := by decide +kernel
theorem dX7_skipped_10 : decode cX7_skipped 10 = .ok (.ireturn, 1) := by decide +kernel
theorem dX7_skipped_11 : decode cX7_skipped 11 = .ok (.aload_n 0, 1) := by decide +kernel
theorem dX7_skipped_12 : decode cX7_skipped 12 = .ok (.dup, 1) := by decide +kernel
theorem dX7_skipped_13 : decode cX7_skipped 13 = .ok (.getfield 29, 3) := by decide +kernel
theorem dX7_skipped_16 : decode cX7_skipped 16 = .ok (.iconst 1, 1) := by decide +kernel
theorem dX7_skipped_17 : decode cX7_skipped 17 = .ok (.iadd, 1) := by decide +kernel
theorem dX7_skipped_18 : decode cX7_skipped 18 = .ok (.putfield 29, 3) := by decide +kernel
theorem dX7_skipped_21 : decode cX7_skipped 21 = .ok (.iconst 1, 1) := by decide +kernel
theorem dX7_skipped_22 : decode cX7_skipped 22 = .ok (.ireturn, 1) := by decide +kernel
theorem dX8_init_0 : decode cX8_init 0 = .ok (.aload_n 0, 1) := by decide +kernel
theorem dX8_init_1 : decode cX8_init 1 = .ok (.invokespecial 3, 3) := by decide +kernel
theorem dX8_init_4 : decode cX8_init 4 = .ok (.aload_n 0, 1) := by decide +kernel
theorem dX8_init_5 : decode cX8_init 5 = .ok (.new 9, 3) := by decide +kernel
theorem dX8_init_8 : decode cX8_init 8 = .ok (.dup, 1) := by decide +kernel
theorem dX8_init_9 : decode cX8_init 9 = .ok (.invokespecial 11, 3) := by decide +kernel
theorem dX8_init_12 : decode cX8_init 12 = .ok (.putfield 12, 3) := by decide +kernel
theorem dX8_init_15 : decode cX8_init 15 = .ok (.aload_n 0, 1) := by decide +kernel
theorem dX8_init_16 : decode cX8_init 16 = .ok (.new 18, 3) := by decide +kernel
theorem dX8_init_19 : decode cX8_init 19 = .ok (.dup, 1) := by decide +kernel
theorem dX8_init_20 : decode cX8_init 20 = .ok (.invokespecial 20, 3) := by decide +kernel
theorem dX8_init_23 : decode cX8_init 23 = .ok (.putfield 21, 3) := by decide +kernel
theorem dX8_init_26 : decode cX8_init 26 = .ok (.aload_n 0, 1) := by decide +kernel
theorem dX8_init_27 : decode cX8_init 27 = .ok (.new 25, 3) := by decide +kernel
theorem dX8_init_30 : decode cX8_init 30 = .ok (.dup, 1) := by decide +kernel
theorem dX8_init_31 : decode cX8_init 31 = .ok (.invokespecial 27, 3) := by decide +kernel
theorem dX8_init_34 : decode cX8_init 34 = .ok (.putfield 28, 3) := by decide +kernel
theorem dX8_init_37 : decode cX8_init 37 = .ok (.aload_n 0, 1) := by decide +kernel
theorem dX8_init_38 : decode cX8_init 38 = .ok (.bipush 6, 2) := by decide +kernel
theorem dX8_init_40 : decode cX8_init 40 = .ok (.anewarray 32, 3) := by decide +kernel
theorem dX8_init_43 : decode cX8_init 43 = .ok (.putfield 34, 3) := by decide +kernel
theorem dX8_init_46 : decode cX8_init 46 = .ok (.iconst 0, 1) := by decide +kernel
theorem dX8_init_47 : decode cX8_init 47 = .ok (.istore_n 1, 1) := by decide +kernel
theorem dX8_init_48 : decode cX8_init 48 = .ok (.iload_n 1, 1) := by decide +kernel
theorem dX8_init_49 : decode cX8_init 49 = .ok (.bipush 6, 2) := by decide +kernel
theorem dX8_init_51 : decode cX8_init 51 = .ok (.if_icmp .ge 22, 3) := by decide +kernel
theorem dX8_init_54 : decode cX8_init 54 = .ok (.aload_n 0, 1) := by decide +kernel
theorem dX8_init_55 : decode cX8_init 55 = .ok (.getfield 34, 3) := by decide +kernel
theorem dX8_init_58 : decode cX8_init 58 = .ok (.iload_n 1, 1) := by decide +kernel
theorem dX8_init_59 : decode cX8_init 59 = .ok (.new 32, 3) := by decide +kernel
theorem dX8_init_62 : decode cX8_init 62 = .ok (.dup, 1) := by decide +kernel
theorem dX8_init_63 : decode cX8_init 63 = .ok (.invokespecial 38, 3) := by decide +kernel
theorem dX8_init_66 : decode cX8_init 66 = .ok (.aastore, 1) := by decide +kernel
theorem dX8_init_67 : decode cX8_init 67 = .ok (.iinc 1 1, 3) := by decide +kernel
theorem dX8_init_70 : decode cX8_init 70 = .ok (.goto (-22), 3) := by decide +kernel
theorem dX8_init_73 : decode cX8_init 73 = .ok (.return_, 1) := by decide +kernel
theorem dX8_put_0 : decode cX8_put 0 = .ok (.aload_n 0, 1) := by decide +kernel
theorem dX8_put_1 : decode cX8_put 1 = .ok (.iload_n 1, 1) := by decide +kernel
theorem dX8_put_2 : decode cX8_put 2 = .ok (.iload_n 2, 1) := by decide +kernel
theorem dX8_put_3 : decode cX8_put 3 = .ok (.iconst 1, 1) := by decide +kernel
theorem dX8_put_4 : decode cX8_put 4 = .ok (.iload_n 3, 1) := by decide +kernel
theorem dX8_put_5 : decode cX8_put 5 = .ok (.iload 4, 2) := by decide +kernel
theorem dX8_put_7 : decode cX8_put 7 = .ok (.invokestatic 41, 3) := by decide +kernel
theorem dX8_put_10 : decode cX8_put 10 = .ok (.iload 5, 2) := by decide +kernel
theorem dX8_put_12 : decode cX8_put 12 = .ok (.invokevirtual 47, 3) := by decide +kernel
theorem dX8_put_15 : decode cX8_put 15 = .ok (.ireturn, 1) := by decide +kernel
theorem dX8_tomb_0 : decode cX8_tomb 0 = .ok (.aload_n 0, 1) := by decide +kernel
theorem dX8_tomb_1 : decode cX8_tomb 1 = .ok (.iload_n 1, 1) := by decide +kernel
theorem dX8_tomb_2 : decode cX8_tomb 2 = .ok (.iload_n 2, 1) := by decide +kernel
theorem dX8_tomb_3 : decode cX8_tomb 3 = .ok (.iconst 2, 1) := by decide +kernel
theorem dX8_tomb_4 : decode cX8_tomb 4 = .ok (.iconst 0, 1) := by decide +kernel
theorem dX8_tomb_5 : decode cX8_tomb 5 = .ok (.iload_n 3, 1) := by decide +kernel
theorem dX8_tomb_6 : decode cX8_tomb 6 = .ok (.invokevirtual 47, 3) := by decide +kernel
theorem dX8_tomb_9 : decode cX8_tomb 9 = .ok (.ireturn, 1) := by decide +kernel
theorem dX8_tick_0 : decode cX8_tick 0 = .ok (.iload_n 1, 1) := by decide +kernel
theorem dX8_tick_1 : decode cX8_tick 1 = .ok (.ifCond .lt 9, 3) := by decide +kernel
theorem dX8_tick_4 : decode cX8_tick 4 = .ok (.iload_n 1, 1) := by decide +kernel
theorem dX8_tick_5 : decode cX8_tick 5 = .ok (.bipush 99, 2) := by decide +kernel
theorem dX8_tick_7 : decode cX8_tick 7 = .ok (.if_icmp .le 6, 3) := by decide +kernel
theorem dX8_tick_10 : decode cX8_tick 10 = .ok (.bipush (-2), 2) := by decide +kernel
theorem dX8_tick_12 : decode cX8_tick 12 = .ok (.ireturn, 1) := by decide +kernel
theorem dX8_tick_13 : decode cX8_tick 13 = .ok (.aload_n 0, 1) := by decide +kernel
theorem dX8_tick_14 : decode cX8_tick 14 = .ok (.getfield 12, 3) := by decide +kernel
theorem dX8_tick_17 : decode cX8_tick 17 = .ok (.getfield 51, 3) := by decide +kernel
theorem dX8_tick_20 : decode cX8_tick 20 = .ok (.iload_n 1, 1) := by decide +kernel
theorem dX8_tick_21 : decode cX8_tick 21 = .ok (.iadd, 1) := by decide +kernel
theorem dX8_tick_22 : decode cX8_tick 22 = .ok (.sipush 9999, 3) := by decide +kernel
theorem dX8_tick_25 : decode cX8_tick 25 = .ok (.if_icmp .le 6, 3) := by decide +kernel
theorem dX8_tick_28 : decode cX8_tick 28 = .ok (.bipush (-3), 2) := by decide +kernel
theorem dX8_tick_30 : decode cX8_tick 30 = .ok (.ireturn, 1) := by decide +kernel
theorem dX8_tick_31 : decode cX8_tick 31 = .ok (.aload_n 0, 1) := by decide +kernel
theorem dX8_tick_32 : decode cX8_tick 32 = .ok (.getfield 12, 3) := by decide +kernel
theorem dX8_tick_35 : decode cX8_tick 35 = .ok (.dup, 1) := by decide +kernel
theorem dX8_tick_36 : decode cX8_tick 36 = .ok (.getfield 51, 3) := by decide +kernel
theorem dX8_tick_39 : decode cX8_tick 39 = .ok (.iload_n 1, 1) := by decide +kernel
theorem dX8_tick_40 : decode cX8_tick 40 = .ok (.iadd, 1) := by decide +kernel
theorem dX8_tick_41 : decode cX8_tick 41 = .ok (.putfield 51, 3) := by decide +kernel
theorem dX8_tick_44 : decode cX8_tick 44 = .ok (.aload_n 0, 1) := by decide +kernel
theorem dX8_tick_45 : decode cX8_tick 45 = .ok (.getfield 12, 3) := by decide +kernel
theorem dX8_tick_48 : decode cX8_tick 48 = .ok (.getfield 51, 3) := by decide +kernel
theorem dX8_tick_51 : decode cX8_tick 51 = .ok (.ireturn, 1) := by decide +kernel
theorem dX8_set_0 : decode cX8_set 0 = .ok (.iload_n 1, 1) := by decide +kernel
theorem dX8_set_1 : decode cX8_set 1 = .ok (.tableswitch 45 0 2 #[27, 33, 39], 27) := by decide +kernel
theorem dX8_set_28 : decode cX8_set 28 = .ok (.aload_n 0, 1) := by decide +kernel
theorem dX8_set_29 : decode cX8_set 29 = .ok (.iload_n 2, 1) := by decide +kernel
theorem dX8_set_30 : decode cX8_set 30 = .ok (.invokevirtual 55, 3) := by decide +kernel
theorem dX8_set_33 : decode cX8_set 33 = .ok (.ireturn, 1) := by decide +kernel
theorem dX8_set_34 : decode cX8_set 34 = .ok (.aload_n 0, 1) := by decide +kernel
theorem dX8_set_35 : decode cX8_set 35 = .ok (.iload_n 2, 1) := by decide +kernel
theorem dX8_set_36 : decode cX8_set 36 = .ok (.invokevirtual 59, 3) := by decide +kernel
theorem dX8_set_39 : decode cX8_set 39 = .ok (.ireturn, 1) := by decide +kernel
theorem dX8_set_40 : decode cX8_set 40 = .ok (.aload_n 0, 1) := by decide +kernel
theorem dX8_set_41 : decode cX8_set 41 = .ok (.iload_n 2, 1) := by decide +kernel
theorem dX8_set_42 : decode cX8_set 42 = .ok (.invokevirtual 62, 3) := by decide +kernel
theorem dX8_set_45 : decode cX8_set 45 = .ok (.ireturn, 1) := by decide +kernel
theorem dX8_set_46 : decode cX8_set 46 = .ok (.iconst (-1), 1) := by decide +kernel
theorem dX8_set_47 : decode cX8_set 47 = .ok (.ireturn, 1) := by decide +kernel
theorem dX8_compact_0 : decode cX8_compact 0 = .ok (.iload_n 1, 1) := by decide +kernel
theorem dX8_compact_1 : decode cX8_compact 1 = .ok (.invokestatic 65, 3) := by decide +kernel
theorem dX8_compact_4 : decode cX8_compact 4 = .ok (.ifCond .eq 32, 3) := by decide +kernel
theorem dX8_compact_7 : decode cX8_compact 7 = .ok (.aload_n 0, 1) := by decide +kernel
theorem dX8_compact_8 : decode cX8_compact 8 = .ok (.getfield 12, 3) := by decide +kernel
theorem dX8_compact_11 : decode cX8_compact 11 = .ok (.getfield 69, 3) := by decide +kernel
theorem dX8_compact_14 : decode cX8_compact 14 = .ok (.iload_n 1, 1) := by decide +kernel
theorem dX8_compact_15 : decode cX8_compact 15 = .ok (.aaload, 1) := by decide +kernel
theorem dX8_compact_16 : decode cX8_compact 16 = .ok (.aload_n 0, 1) := by decide +kernel
theorem dX8_compact_17 : decode cX8_compact 17 = .ok (.getfield 12, 3) := by decide +kernel
theorem dX8_compact_20 : decode cX8_compact 20 = .ok (.getfield 51, 3) := by decide +kernel
theorem dX8_compact_23 : decode cX8_compact 23 = .ok (.aload_n 0, 1) := by decide +kernel
theorem dX8_compact_24 : decode cX8_compact 24 = .ok (.getfield 12, 3) := by decide +kernel
theorem dX8_compact_27 : decode cX8_compact 27 = .ok (.getfield 73, 3) := by decide +kernel
theorem dX8_compact_30 : decode cX8_compact 30 = .ok (.invokevirtual 76, 3) := by decide +kernel
theorem dX8_compact_33 : decode cX8_compact 33 = .ok (.goto 4, 3) := by decide +kernel
theorem dX8_compact_36 : decode cX8_compact 36 = .ok (.iconst (-1), 1) := by decide +kernel
theorem dX8_compact_37 : decode cX8_compact 37 = .ok (.ireturn, 1) := by decide +kernel
theorem dX8_retain_0 : decode cX8_retain 0 = .ok (.iload_n 1, 1) := by decide +kernel
theorem dX8_retain_1 : decode cX8_retain 1 = .ok (.invokestatic 65, 3) := by decide +kernel
theorem dX8_retain_4 : decode cX8_retain 4 = .ok (.ifCond .eq 39, 3) := by decide +kernel
theorem dX8_retain_7 : decode cX8_retain 7 = .ok (.aload_n 0, 1) := by decide +kernel
theorem dX8_retain_8 : decode cX8_retain 8 = .ok (.getfield 12, 3) := by decide +kernel
theorem dX8_retain_11 : decode cX8_retain 11 = .ok (.getfield 69, 3) := by decide +kernel
theorem dX8_retain_14 : decode cX8_retain 14 = .ok (.iload_n 1, 1) := by decide +kernel
theorem dX8_retain_15 : decode cX8_retain 15 = .ok (.aaload, 1) := by decide +kernel
theorem dX8_retain_16 : decode cX8_retain 16 = .ok (.aload_n 0, 1) := by decide +kernel
theorem dX8_retain_17 : decode cX8_retain 17 = .ok (.getfield 12, 3) := by decide +kernel
theorem dX8_retain_20 : decode cX8_retain 20 = .ok (.getfield 79, 3) := by decide +kernel
theorem dX8_retain_23 : decode cX8_retain 23 = .ok (.aload_n 0, 1) := by decide +kernel
theorem dX8_retain_24 : decode cX8_retain 24 = .ok (.getfield 12, 3) := by decide +kernel
theorem dX8_retain_27 : decode cX8_retain 27 = .ok (.getfield 51, 3) := by decide +kernel
theorem dX8_retain_30 : decode cX8_retain 30 = .ok (.aload_n 0, 1) := by decide +kernel
theorem dX8_retain_31 : decode cX8_retain 31 = .ok (.getfield 12, 3) := by decide +kernel
theorem dX8_retain_34 : decode cX8_retain 34 = .ok (.getfield 82, 3) := by decide +kernel
theorem dX8_retain_37 : decode cX8_retain 37 = .ok (.invokevirtual 85, 3) := by decide +kernel
theorem dX8_retain_40 : decode cX8_retain 40 = .ok (.goto 4, 3) := by decide +kernel
theorem dX8_retain_43 : decode cX8_retain 43 = .ok (.iconst (-1), 1) := by decide +kernel
theorem dX8_retain_44 : decode cX8_retain 44 = .ok (.ireturn, 1) := by decide +kernel
theorem dX8_feed_0 : decode cX8_feed 0 = .ok (.iload_n 1, 1) := by decide +kernel
theorem dX8_feed_1 : decode cX8_feed 1 = .ok (.ifCond .lt 9, 3) := by decide +kernel
theorem dX8_feed_4 : decode cX8_feed 4 = .ok (.iload_n 1, 1) := by decide +kernel
theorem dX8_feed_5 : decode cX8_feed 5 = .ok (.bipush 127, 2) := by decide +kernel
theorem dX8_feed_7 : decode cX8_feed 7 = .ok (.if_icmp .le 6, 3) := by decide +kernel
theorem dX8_feed_10 : decode cX8_feed 10 = .ok (.bipush (-2), 2) := by decide +kernel
theorem dX8_feed_12 : decode cX8_feed 12 = .ok (.ireturn, 1) := by decide +kernel
theorem dX8_feed_13 : decode cX8_feed 13 = .ok (.aload_n 0, 1) := by decide +kernel
theorem dX8_feed_14 : decode cX8_feed 14 = .ok (.getfield 21, 3) := by decide +kernel
theorem dX8_feed_17 : decode cX8_feed 17 = .ok (.invokevirtual 89, 3) := by decide +kernel
theorem dX8_feed_20 : decode cX8_feed 20 = .ok (.ifCond .eq 8, 3) := by decide +kernel
theorem dX8_feed_23 : decode cX8_feed 23 = .ok (.bipush (-4), 2) := by decide +kernel
theorem dX8_feed_25 : decode cX8_feed 25 = .ok (.goto 11, 3) := by decide +kernel
theorem dX8_feed_28 : decode cX8_feed 28 = .ok (.aload_n 0, 1) := by decide +kernel
theorem dX8_feed_29 : decode cX8_feed 29 = .ok (.getfield 21, 3) := by decide +kernel
theorem dX8_feed_32 : decode cX8_feed 32 = .ok (.iload_n 1, 1) := by decide +kernel
theorem dX8_feed_33 : decode cX8_feed 33 = .ok (.invokevirtual 93, 3) := by decide +kernel
theorem dX8_feed_36 : decode cX8_feed 36 = .ok (.ireturn, 1) := by decide +kernel
theorem dX8_read_0 : decode cX8_read 0 = .ok (.aload_n 0, 1) := by decide +kernel
theorem dX8_read_1 : decode cX8_read 1 = .ok (.getfield 21, 3) := by decide +kernel
theorem dX8_read_4 : decode cX8_read 4 = .ok (.invokevirtual 96, 3) := by decide +kernel
theorem dX8_read_7 : decode cX8_read 7 = .ok (.istore_n 1, 1) := by decide +kernel
theorem dX8_read_8 : decode cX8_read 8 = .ok (.aload_n 0, 1) := by decide +kernel
theorem dX8_read_9 : decode cX8_read 9 = .ok (.getfield 21, 3) := by decide +kernel
theorem dX8_read_12 : decode cX8_read 12 = .ok (.getfield 99, 3) := by decide +kernel
theorem dX8_read_15 : decode cX8_read 15 = .ok (.istore_n 2, 1) := by decide +kernel
theorem dX8_read_16 : decode cX8_read 16 = .ok (.aload_n 0, 1) := by decide +kernel
theorem dX8_read_17 : decode cX8_read 17 = .ok (.getfield 21, 3) := by decide +kernel
theorem dX8_read_20 : decode cX8_read 20 = .ok (.iconst 0, 1) := by decide +kernel
theorem dX8_read_21 : decode cX8_read 21 = .ok (.putfield 102, 3) := by decide +kernel
theorem dX8_read_24 : decode cX8_read 24 = .ok (.iload_n 1, 1) := by decide +kernel
theorem dX8_read_25 : decode cX8_read 25 = .ok (.ifCond .eq 10, 3) := by decide +kernel
theorem dX8_read_28 : decode cX8_read 28 = .ok (.aload_n 0, 1) := by decide +kernel
theorem dX8_read_29 : decode cX8_read 29 = .ok (.invokevirtual 105, 3) := by decide +kernel
theorem dX8_read_32 : decode cX8_read 32 = .ok (.goto 7, 3) := by decide +kernel
theorem dX8_read_35 : decode cX8_read 35 = .ok (.bipush (-10), 2) := by decide +kernel
theorem dX8_read_37 : decode cX8_read 37 = .ok (.iload_n 2, 1) := by decide +kernel
theorem dX8_read_38 : decode cX8_read 38 = .ok (.isub, 1) := by decide +kernel
theorem dX8_read_39 : decode cX8_read 39 = .ok (.ireturn, 1) := by decide +kernel
theorem dX8_of_0 : decode cX8_of 0 = .ok (.iload_n 1, 1) := by decide +kernel
theorem dX8_of_1 : decode cX8_of 1 = .ok (.invokestatic 65, 3) := by decide +kernel
theorem dX8_of_4 : decode cX8_of 4 = .ok (.ifCond .ne 5, 3) := by decide +kernel
theorem dX8_of_7 : decode cX8_of 7 = .ok (.iconst (-1), 1) := by decide +kernel
theorem dX8_of_8 : decode cX8_of 8 = .ok (.ireturn, 1) := by decide +kernel
theorem dX8_of_9 : decode cX8_of 9 = .ok (.aload_n 0, 1) := by decide +kernel
theorem dX8_of_10 : decode cX8_of 10 = .ok (.getfield 12, 3) := by decide +kernel
theorem dX8_of_13 : decode cX8_of 13 = .ok (.getfield 69, 3) := by decide +kernel
theorem dX8_of_16 : decode cX8_of 16 = .ok (.iload_n 1, 1) := by decide +kernel
theorem dX8_of_17 : decode cX8_of 17 = .ok (.aaload, 1) := by decide +kernel
theorem dX8_of_18 : decode cX8_of 18 = .ok (.astore_n 3, 1) := by decide +kernel
theorem dX8_of_19 : decode cX8_of 19 = .ok (.iload_n 2, 1) := by decide +kernel
theorem dX8_of_20 : decode cX8_of 20 = .ok (.tableswitch 155 0 10 #[60, 65, 70, 75, 80, 90, 105, 114, 127, 140, 146], 60) := by decide +kernel
theorem dX8_of_80 : decode cX8_of 80 = .ok (.aload_n 3, 1) := by decide +kernel
theorem dX8_of_81 : decode cX8_of 81 = .ok (.invokevirtual 109, 3) := by decide +kernel
theorem dX8_of_84 : decode cX8_of 84 = .ok (.ireturn, 1) := by decide +kernel
theorem dX8_of_85 : decode cX8_of 85 = .ok (.aload_n 3, 1) := by decide +kernel
theorem dX8_of_86 : decode cX8_of 86 = .ok (.invokevirtual 112, 3) := by decide +kernel
theorem dX8_of_89 : decode cX8_of 89 = .ok (.ireturn, 1) := by decide +kernel
theorem dX8_of_90 : decode cX8_of 90 = .ok (.aload_n 3, 1) := by decide +kernel
theorem dX8_of_91 : decode cX8_of 91 = .ok (.getfield 115, 3) := by decide +kernel
theorem dX8_of_94 : decode cX8_of 94 = .ok (.ireturn, 1) := by decide +kernel
theorem dX8_of_95 : decode cX8_of 95 = .ok (.aload_n 3, 1) := by decide +kernel
theorem dX8_of_96 : decode cX8_of 96 = .ok (.getfield 118, 3) := by decide +kernel
theorem dX8_of_99 : decode cX8_of 99 = .ok (.ireturn, 1) := by decide +kernel
theorem dX8_of_100 : decode cX8_of 100 = .ok (.aload_n 3, 1) := by decide +kernel
theorem dX8_of_101 : decode cX8_of 101 = .ok (.iconst 0, 1) := by decide +kernel
theorem dX8_of_102 : decode cX8_of 102 = .ok (.aload_n 3, 1) := by decide +kernel
theorem dX8_of_103 : decode cX8_of 103 = .ok (.getfield 115, 3) := by decide +kernel
theorem dX8_of_106 : decode cX8_of 106 = .ok (.invokevirtual 121, 3) := by decide +kernel
theorem dX8_of_109 : decode cX8_of 109 = .ok (.ireturn, 1) := by decide +kernel
theorem dX8_of_110 : decode cX8_of 110 = .ok (.aload_n 3, 1) := by decide +kernel
theorem dX8_of_111 : decode cX8_of 111 = .ok (.getfield 115, 3) := by decide +kernel
theorem dX8_of_114 : decode cX8_of 114 = .ok (.aload_n 3, 1) := by decide +kernel
theorem dX8_of_115 : decode cX8_of 115 = .ok (.invokevirtual 112, 3) := by decide +kernel
theorem dX8_of_118 : decode cX8_of 118 = .ok (.isub, 1) := by decide +kernel
theorem dX8_of_119 : decode cX8_of 119 = .ok (.aload_n 3, 1) := by decide +kernel
theorem dX8_of_120 : decode cX8_of 120 = .ok (.invokevirtual 109, 3) := by decide +kernel
theorem dX8_of_123 : decode cX8_of 123 = .ok (.isub, 1) := by decide +kernel
theorem dX8_of_124 : decode cX8_of 124 = .ok (.ireturn, 1) := by decide +kernel
theorem dX8_of_125 : decode cX8_of 125 = .ok (.aload_n 3, 1) := by decide +kernel
theorem dX8_of_126 : decode cX8_of 126 = .ok (.aload_n 3, 1) := by decide +kernel
theorem dX8_of_127 : decode cX8_of 127 = .ok (.getfield 115, 3) := by decide +kernel
theorem dX8_of_130 : decode cX8_of 130 = .ok (.invokevirtual 124, 3) := by decide +kernel
theorem dX8_of_133 : decode cX8_of 133 = .ok (.ireturn, 1) := by decide +kernel
theorem dX8_of_134 : decode cX8_of 134 = .ok (.aload_n 0, 1) := by decide +kernel
theorem dX8_of_135 : decode cX8_of 135 = .ok (.getfield 12, 3) := by decide +kernel
theorem dX8_of_138 : decode cX8_of 138 = .ok (.getfield 127, 3) := by decide +kernel
theorem dX8_of_141 : decode cX8_of 141 = .ok (.getfield 131, 3) := by decide +kernel
theorem dX8_of_144 : decode cX8_of 144 = .ok (.iload_n 1, 1) := by decide +kernel
theorem dX8_of_145 : decode cX8_of 145 = .ok (.iaload, 1) := by decide +kernel
theorem dX8_of_146 : decode cX8_of 146 = .ok (.ireturn, 1) := by decide +kernel
theorem dX8_of_147 : decode cX8_of 147 = .ok (.aload_n 0, 1) := by decide +kernel
theorem dX8_of_148 : decode cX8_of 148 = .ok (.getfield 12, 3) := by decide +kernel
theorem dX8_of_151 : decode cX8_of 151 = .ok (.getfield 127, 3) := by decide +kernel
theorem dX8_of_154 : decode cX8_of 154 = .ok (.getfield 137, 3) := by decide +kernel
theorem dX8_of_157 : decode cX8_of 157 = .ok (.iload_n 1, 1) := by decide +kernel
theorem dX8_of_158 : decode cX8_of 158 = .ok (.iaload, 1) := by decide +kernel
theorem dX8_of_159 : decode cX8_of 159 = .ok (.ireturn, 1) := by decide +kernel
theorem dX8_of_160 : decode cX8_of 160 = .ok (.aload_n 3, 1) := by decide +kernel
theorem dX8_of_161 : decode cX8_of 161 = .ok (.iconst 0, 1) := by decide +kernel
theorem dX8_of_162 : decode cX8_of 162 = .ok (.invokevirtual 140, 3) := by decide +kernel
theorem dX8_of_165 : decode cX8_of 165 = .ok (.ireturn, 1) := by decide +kernel
theorem dX8_of_166 : decode cX8_of 166 = .ok (.aload_n 3, 1) := by decide +kernel
theorem dX8_of_167 : decode cX8_of 167 = .ok (.aload_n 3, 1) := by decide +kernel
theorem dX8_of_168 : decode cX8_of 168 = .ok (.getfield 115, 3) := by decide +kernel
theorem dX8_of_171 : decode cX8_of 171 = .ok (.invokevirtual 143, 3) := by decide +kernel
theorem dX8_of_174 : decode cX8_of 174 = .ok (.ireturn, 1) := by decide +kernel
theorem dX8_of_175 : decode cX8_of 175 = .ok (.iconst (-1), 1) := by decide +kernel
theorem dX8_of_176 : decode cX8_of 176 = .ok (.ireturn, 1) := by decide +kernel
theorem dX8_record_0 : decode cX8_record 0 = .ok (.iload_n 1, 1) := by decide +kernel
theorem dX8_record_1 : decode cX8_record 1 = .ok (.invokestatic 65, 3) := by decide +kernel
theorem dX8_record_4 : decode cX8_record 4 = .ok (.ifCond .eq 19, 3) := by decide +kernel
theorem dX8_record_7 : decode cX8_record 7 = .ok (.aload_n 0, 1) := by decide +kernel
theorem dX8_record_8 : decode cX8_record 8 = .ok (.getfield 12, 3) := by decide +kernel
theorem dX8_record_11 : decode cX8_record 11 = .ok (.getfield 69, 3) := by decide +kernel
theorem dX8_record_14 : decode cX8_record 14 = .ok (.iload_n 1, 1) := by decide +kernel
theorem dX8_record_15 : decode cX8_record 15 = .ok (.aaload, 1) := by decide +kernel
theorem dX8_record_16 : decode cX8_record 16 = .ok (.iload_n 2, 1) := by decide +kernel
theorem dX8_record_17 : decode cX8_record 17 = .ok (.invokevirtual 146, 3) := by decide +kernel
theorem dX8_record_20 : decode cX8_record 20 = .ok (.ifCond .ne 7, 3) := by decide +kernel
theorem dX8_record_23 : decode cX8_record 23 = .ok (.ldc2_w 149, 3) := by decide +kernel
theorem dX8_record_26 : decode cX8_record 26 = .ok (.lreturn, 1) := by decide +kernel
theorem dX8_record_27 : decode cX8_record 27 = .ok (.aload_n 0, 1) := by decide +kernel
theorem dX8_record_28 : decode cX8_record 28 = .ok (.getfield 12, 3) := by decide +kernel
theorem dX8_record_31 : decode cX8_record 31 = .ok (.getfield 69, 3) := by decide +kernel
theorem dX8_record_34 : decode cX8_record 34 = .ok (.iload_n 1, 1) := by decide +kernel
theorem dX8_record_35 : decode cX8_record 35 = .ok (.aaload, 1) := by decide +kernel
theorem dX8_record_36 : decode cX8_record 36 = .ok (.astore 4, 2) := by decide +kernel
theorem dX8_record_38 : decode cX8_record 38 = .ok (.iload_n 3, 1) := by decide +kernel
theorem dX8_record_39 : decode cX8_record 39 = .ok (.tableswitch 115 0 5 #[37, 46, 55, 64, 81, 107], 37) := by decide +kernel
theorem dX8_record_76 : decode cX8_record 76 = .ok (.aload 4, 2) := by decide +kernel
theorem dX8_record_78 : decode cX8_record 78 = .ok (.getfield 151, 3) := by decide +kernel
theorem dX8_record_81 : decode cX8_record 81 = .ok (.iload_n 2, 1) := by decide +kernel
theorem dX8_record_82 : decode cX8_record 82 = .ok (.iaload, 1) := by decide +kernel
theorem dX8_record_83 : decode cX8_record 83 = .ok (.i2l, 1) := by decide +kernel
theorem dX8_record_84 : decode cX8_record 84 = .ok (.lreturn, 1) := by decide +kernel
theorem dX8_record_85 : decode cX8_record 85 = .ok (.aload 4, 2) := by decide +kernel
theorem dX8_record_87 : decode cX8_record 87 = .ok (.getfield 154, 3) := by decide +kernel
theorem dX8_record_90 : decode cX8_record 90 = .ok (.iload_n 2, 1) := by decide +kernel
theorem dX8_record_91 : decode cX8_record 91 = .ok (.iaload, 1) := by decide +kernel
theorem dX8_record_92 : decode cX8_record 92 = .ok (.i2l, 1) := by decide +kernel
theorem dX8_record_93 : decode cX8_record 93 = .ok (.lreturn, 1) := by decide +kernel
theorem dX8_record_94 : decode cX8_record 94 = .ok (.aload 4, 2) := by decide +kernel
theorem dX8_record_96 : decode cX8_record 96 = .ok (.getfield 157, 3) := by decide +kernel
theorem dX8_record_99 : decode cX8_record 99 = .ok (.iload_n 2, 1) := by decide +kernel
theorem dX8_record_100 : decode cX8_record 100 = .ok (.iaload, 1) := by decide +kernel
theorem dX8_record_101 : decode cX8_record 101 = .ok (.i2l, 1) := by decide +kernel
theorem dX8_record_102 : decode cX8_record 102 = .ok (.lreturn, 1) := by decide +kernel
theorem dX8_record_103 : decode cX8_record 103 = .ok (.aload 4, 2) := by decide +kernel
theorem dX8_record_105 : decode cX8_record 105 = .ok (.getfield 160, 3) := by decide +kernel
theorem dX8_record_108 : decode cX8_record 108 = .ok (.iload_n 2, 1) := by decide +kernel
theorem dX8_record_109 : decode cX8_record 109 = .ok (.iaload, 1) := by decide +kernel
theorem dX8_record_110 : decode cX8_record 110 = .ok (.iconst 2, 1) := by decide +kernel
theorem dX8_record_111 : decode cX8_record 111 = .ok (.if_icmp .ne 7, 3) := by decide +kernel
theorem dX8_record_114 : decode cX8_record 114 = .ok (.lconst 1, 1) := by decide +kernel
theorem dX8_record_115 : decode cX8_record 115 = .ok (.goto 4, 3) := by decide +kernel
theorem dX8_record_118 : decode cX8_record 118 = .ok (.lconst 0, 1) := by decide +kernel
theorem dX8_record_119 : decode cX8_record 119 = .ok (.lreturn, 1) := by decide +kernel
theorem dX8_record_120 : decode cX8_record 120 = .ok (.aload 4, 2) := by decide +kernel
theorem dX8_record_122 : decode cX8_record 122 = .ok (.getfield 160, 3) := by decide +kernel
theorem dX8_record_125 : decode cX8_record 125 = .ok (.iload_n 2, 1) := by decide +kernel
theorem dX8_record_126 : decode cX8_record 126 = .ok (.iaload, 1) := by decide +kernel
theorem dX8_record_127 : decode cX8_record 127 = .ok (.iconst 2, 1) := by decide +kernel
theorem dX8_record_128 : decode cX8_record 128 = .ok (.if_icmp .ne 9, 3) := by decide +kernel
theorem dX8_record_131 : decode cX8_record 131 = .ok (.ldc2_w 149, 3) := by decide +kernel
theorem dX8_record_134 : decode cX8_record 134 = .ok (.goto 11, 3) := by decide +kernel
theorem dX8_record_137 : decode cX8_record 137 = .ok (.aload 4, 2) := by decide +kernel
theorem dX8_record_139 : decode cX8_record 139 = .ok (.getfield 163, 3) := by decide +kernel
theorem dX8_record_142 : decode cX8_record 142 = .ok (.iload_n 2, 1) := by decide +kernel
theorem dX8_record_143 : decode cX8_record 143 = .ok (.iaload, 1) := by decide +kernel
theorem dX8_record_144 : decode cX8_record 144 = .ok (.i2l, 1) := by decide +kernel
theorem dX8_record_145 : decode cX8_record 145 = .ok (.lreturn, 1) := by decide +kernel
theorem dX8_record_146 : decode cX8_record 146 = .ok (.aload 4, 2) := by decide +kernel
theorem dX8_record_148 : decode cX8_record 148 = .ok (.iload_n 2, 1) := by decide +kernel
theorem dX8_record_149 : decode cX8_record 149 = .ok (.invokevirtual 166, 3) := by decide +kernel
theorem dX8_record_152 : decode cX8_record 152 = .ok (.i2l, 1) := by decide +kernel
theorem dX8_record_153 : decode cX8_record 153 = .ok (.lreturn, 1) := by decide +kernel
theorem dX8_record_154 : decode cX8_record 154 = .ok (.ldc2_w 149, 3) := by decide +kernel
theorem dX8_record_157 : decode cX8_record 157 = .ok (.lreturn, 1) := by decide +kernel
theorem dX8_segment_0 : decode cX8_segment 0 = .ok (.iload_n 1, 1) := by decide +kernel
theorem dX8_segment_1 : decode cX8_segment 1 = .ok (.invokestatic 65, 3) := by decide +kernel
theorem dX8_segment_4 : decode cX8_segment 4 = .ok (.ifCond .eq 23, 3) := by decide +kernel
theorem dX8_segment_7 : decode cX8_segment 7 = .ok (.iload_n 2, 1) := by decide +kernel
theorem dX8_segment_8 : decode cX8_segment 8 = .ok (.ifCond .lt 19, 3) := by decide +kernel
theorem dX8_segment_11 : decode cX8_segment 11 = .ok (.iload_n 2, 1) := by decide +kernel
theorem dX8_segment_12 : decode cX8_segment 12 = .ok (.aload_n 0, 1) := by decide +kernel
theorem dX8_segment_13 : decode cX8_segment 13 = .ok (.getfield 12, 3) := by decide +kernel
theorem dX8_segment_16 : decode cX8_segment 16 = .ok (.getfield 69, 3) := by decide +kernel
theorem dX8_segment_19 : decode cX8_segment 19 = .ok (.iload_n 1, 1) := by decide +kernel
theorem dX8_segment_20 : decode cX8_segment 20 = .ok (.aaload, 1) := by decide +kernel
theorem dX8_segment_21 : decode cX8_segment 21 = .ok (.getfield 118, 3) := by decide +kernel
theorem dX8_segment_24 : decode cX8_segment 24 = .ok (.if_icmp .lt 5, 3) := by decide +kernel
theorem dX8_segment_27 : decode cX8_segment 27 = .ok (.iconst (-1), 1) := by decide +kernel
theorem dX8_segment_28 : decode cX8_segment 28 = .ok (.ireturn, 1) := by decide +kernel
theorem dX8_segment_29 : decode cX8_segment 29 = .ok (.aload_n 0, 1) := by decide +kernel
theorem dX8_segment_30 : decode cX8_segment 30 = .ok (.getfield 12, 3) := by decide +kernel
theorem dX8_segment_33 : decode cX8_segment 33 = .ok (.getfield 69, 3) := by decide +kernel
theorem dX8_segment_36 : decode cX8_segment 36 = .ok (.iload_n 1, 1) := by decide +kernel
theorem dX8_segment_37 : decode cX8_segment 37 = .ok (.aaload, 1) := by decide +kernel
theorem dX8_segment_38 : decode cX8_segment 38 = .ok (.astore 4, 2) := by decide +kernel
theorem dX8_segment_40 : decode cX8_segment 40 = .ok (.iload_n 3, 1) := by decide +kernel
theorem dX8_segment_41 : decode cX8_segment 41 = .ok (.tableswitch 92 0 3 #[31, 39, 58, 77], 31) := by decide +kernel
theorem dX8_segment_72 : decode cX8_segment 72 = .ok (.aload 4, 2) := by decide +kernel
theorem dX8_segment_74 : decode cX8_segment 74 = .ok (.getfield 169, 3) := by decide +kernel
theorem dX8_segment_77 : decode cX8_segment 77 = .ok (.iload_n 2, 1) := by decide +kernel
theorem dX8_segment_78 : decode cX8_segment 78 = .ok (.iaload, 1) := by decide +kernel
theorem dX8_segment_79 : decode cX8_segment 79 = .ok (.ireturn, 1) := by decide +kernel
theorem dX8_segment_80 : decode cX8_segment 80 = .ok (.aload 4, 2) := by decide +kernel
theorem dX8_segment_82 : decode cX8_segment 82 = .ok (.aload 4, 2) := by decide +kernel
theorem dX8_segment_84 : decode cX8_segment 84 = .ok (.getfield 169, 3) := by decide +kernel
theorem dX8_segment_87 : decode cX8_segment 87 = .ok (.iload_n 2, 1) := by decide +kernel
theorem dX8_segment_88 : decode cX8_segment 88 = .ok (.iaload, 1) := by decide +kernel
theorem dX8_segment_89 : decode cX8_segment 89 = .ok (.aload 4, 2) := by decide +kernel
theorem dX8_segment_91 : decode cX8_segment 91 = .ok (.iload_n 2, 1) := by decide +kernel
theorem dX8_segment_92 : decode cX8_segment 92 = .ok (.invokevirtual 172, 3) := by decide +kernel
theorem dX8_segment_95 : decode cX8_segment 95 = .ok (.invokevirtual 175, 3) := by decide +kernel
theorem dX8_segment_98 : decode cX8_segment 98 = .ok (.ireturn, 1) := by decide +kernel
theorem dX8_segment_99 : decode cX8_segment 99 = .ok (.aload 4, 2) := by decide +kernel
theorem dX8_segment_101 : decode cX8_segment 101 = .ok (.aload 4, 2) := by decide +kernel
theorem dX8_segment_103 : decode cX8_segment 103 = .ok (.getfield 169, 3) := by decide +kernel
theorem dX8_segment_106 : decode cX8_segment 106 = .ok (.iload_n 2, 1) := by decide +kernel
theorem dX8_segment_107 : decode cX8_segment 107 = .ok (.iaload, 1) := by decide +kernel
theorem dX8_segment_108 : decode cX8_segment 108 = .ok (.aload 4, 2) := by decide +kernel
theorem dX8_segment_110 : decode cX8_segment 110 = .ok (.iload_n 2, 1) := by decide +kernel
theorem dX8_segment_111 : decode cX8_segment 111 = .ok (.invokevirtual 172, 3) := by decide +kernel
theorem dX8_segment_114 : decode cX8_segment 114 = .ok (.invokevirtual 121, 3) := by decide +kernel
theorem dX8_segment_117 : decode cX8_segment 117 = .ok (.ireturn, 1) := by decide +kernel
theorem dX8_segment_118 : decode cX8_segment 118 = .ok (.aload 4, 2) := by decide +kernel
theorem dX8_segment_120 : decode cX8_segment 120 = .ok (.iload_n 2, 1) := by decide +kernel
theorem dX8_segment_121 : decode cX8_segment 121 = .ok (.invokevirtual 178, 3) := by decide +kernel
theorem dX8_segment_124 : decode cX8_segment 124 = .ok (.ifCond .eq 7, 3) := by decide +kernel
theorem dX8_segment_127 : decode cX8_segment 127 = .ok (.iconst 1, 1) := by decide +kernel
theorem dX8_segment_128 : decode cX8_segment 128 = .ok (.goto 4, 3) := by decide +kernel
theorem dX8_segment_131 : decode cX8_segment 131 = .ok (.iconst 0, 1) := by decide +kernel
theorem dX8_segment_132 : decode cX8_segment 132 = .ok (.ireturn, 1) := by decide +kernel
theorem dX8_segment_133 : decode cX8_segment 133 = .ok (.iconst (-1), 1) := by decide +kernel
theorem dX8_segment_134 : decode cX8_segment 134 = .ok (.ireturn, 1) := by decide +kernel
theorem dX8_value_0 : decode cX8_value 0 = .ok (.iload_n 1, 1) := by decide +kernel
theorem dX8_value_1 : decode cX8_value 1 = .ok (.invokestatic 65, 3) := by decide +kernel
theorem dX8_value_4 : decode cX8_value 4 = .ok (.ifCond .eq 38, 3) := by decide +kernel
theorem dX8_value_7 : decode cX8_value 7 = .ok (.iload_n 2, 1) := by decide +kernel
theorem dX8_value_8 : decode cX8_value 8 = .ok (.invokestatic 181, 3) := by decide +kernel
theorem dX8_value_11 : decode cX8_value 11 = .ok (.ifCond .eq 31, 3) := by decide +kernel
theorem dX8_value_14 : decode cX8_value 14 = .ok (.aload_n 0, 1) := by decide +kernel
theorem dX8_value_15 : decode cX8_value 15 = .ok (.getfield 12, 3) := by decide +kernel
theorem dX8_value_18 : decode cX8_value 18 = .ok (.getfield 69, 3) := by decide +kernel
theorem dX8_value_21 : decode cX8_value 21 = .ok (.iload_n 1, 1) := by decide +kernel
theorem dX8_value_22 : decode cX8_value 22 = .ok (.aaload, 1) := by decide +kernel
theorem dX8_value_23 : decode cX8_value 23 = .ok (.iload_n 2, 1) := by decide +kernel
theorem dX8_value_24 : decode cX8_value 24 = .ok (.aload_n 0, 1) := by decide +kernel
theorem dX8_value_25 : decode cX8_value 25 = .ok (.getfield 12, 3) := by decide +kernel
theorem dX8_value_28 : decode cX8_value 28 = .ok (.getfield 69, 3) := by decide +kernel
theorem dX8_value_31 : decode cX8_value 31 = .ok (.iload_n 1, 1) := by decide +kernel
theorem dX8_value_32 : decode cX8_value 32 = .ok (.aaload, 1) := by decide +kernel
theorem dX8_value_33 : decode cX8_value 33 = .ok (.getfield 115, 3) := by decide +kernel
theorem dX8_value_36 : decode cX8_value 36 = .ok (.invokevirtual 184, 3) := by decide +kernel
theorem dX8_value_39 : decode cX8_value 39 = .ok (.goto 6, 3) := by decide +kernel
theorem dX8_value_42 : decode cX8_value 42 = .ok (.ldc2_w 149, 3) := by decide +kernel
theorem dX8_value_45 : decode cX8_value 45 = .ok (.lreturn, 1) := by decide +kernel
theorem dX8_map_0 : decode cX8_map 0 = .ok (.iload_n 1, 1) := by decide +kernel
theorem dX8_map_1 : decode cX8_map 1 = .ok (.invokestatic 65, 3) := by decide +kernel
theorem dX8_map_4 : decode cX8_map 4 = .ok (.ifCond .ne 7, 3) := by decide +kernel
theorem dX8_map_7 : decode cX8_map 7 = .ok (.ldc2_w 149, 3) := by decide +kernel
theorem dX8_map_10 : decode cX8_map 10 = .ok (.lreturn, 1) := by decide +kernel
theorem dX8_map_11 : decode cX8_map 11 = .ok (.aload_n 0, 1) := by decide +kernel
theorem dX8_map_12 : decode cX8_map 12 = .ok (.getfield 12, 3) := by decide +kernel
theorem dX8_map_15 : decode cX8_map 15 = .ok (.getfield 69, 3) := by decide +kernel
theorem dX8_map_18 : decode cX8_map 18 = .ok (.iload_n 1, 1) := by decide +kernel
theorem dX8_map_19 : decode cX8_map 19 = .ok (.aaload, 1) := by decide +kernel
theorem dX8_map_20 : decode cX8_map 20 = .ok (.astore_n 3, 1) := by decide +kernel
theorem dX8_map_21 : decode cX8_map 21 = .ok (.iload_n 2, 1) := by decide +kernel
theorem dX8_map_22 : decode cX8_map 22 = .ok (.tableswitch 65 0 4 #[34, 44, 50, 55, 60], 34) := by decide +kernel
theorem dX8_map_56 : decode cX8_map 56 = .ok (.aload_n 3, 1) := by decide +kernel
theorem dX8_map_57 : decode cX8_map 57 = .ok (.aload_n 3, 1) := by decide +kernel
theorem dX8_map_58 : decode cX8_map 58 = .ok (.getfield 115, 3) := by decide +kernel
theorem dX8_map_61 : decode cX8_map 61 = .ok (.invokevirtual 124, 3) := by decide +kernel
theorem dX8_map_64 : decode cX8_map 64 = .ok (.i2l, 1) := by decide +kernel
theorem dX8_map_65 : decode cX8_map 65 = .ok (.lreturn, 1) := by decide +kernel
theorem dX8_map_66 : decode cX8_map 66 = .ok (.aload_n 3, 1) := by decide +kernel
theorem dX8_map_67 : decode cX8_map 67 = .ok (.invokevirtual 188, 3) := by decide +kernel
theorem dX8_map_70 : decode cX8_map 70 = .ok (.i2l, 1) := by decide +kernel
theorem dX8_map_71 : decode cX8_map 71 = .ok (.lreturn, 1) := by decide +kernel
theorem dX8_map_72 : decode cX8_map 72 = .ok (.aload_n 3, 1) := by decide +kernel
theorem dX8_map_73 : decode cX8_map 73 = .ok (.invokevirtual 191, 3) := by decide +kernel
theorem dX8_map_76 : decode cX8_map 76 = .ok (.lreturn, 1) := by decide +kernel
theorem dX8_map_77 : decode cX8_map 77 = .ok (.aload_n 3, 1) := by decide +kernel
theorem dX8_map_78 : decode cX8_map 78 = .ok (.invokevirtual 195, 3) := by decide +kernel
theorem dX8_map_81 : decode cX8_map 81 = .ok (.lreturn, 1) := by decide +kernel
theorem dX8_map_82 : decode cX8_map 82 = .ok (.aload_n 3, 1) := by decide +kernel
theorem dX8_map_83 : decode cX8_map 83 = .ok (.invokevirtual 198, 3) := by decide +kernel
theorem dX8_map_86 : decode cX8_map 86 = .ok (.lreturn, 1) := by decide +kernel
theorem dX8_map_87 : decode cX8_map 87 = .ok (.ldc2_w 149, 3) := by decide +kernel
theorem dX8_map_90 : decode cX8_map 90 = .ok (.lreturn, 1) := by decide +kernel
theorem dX8_replay_0 : decode cX8_replay 0 = .ok (.iload_n 1, 1) := by decide +kernel
theorem dX8_replay_1 : decode cX8_replay 1 = .ok (.invokestatic 65, 3) := by decide +kernel
theorem dX8_replay_4 : decode cX8_replay 4 = .ok (.ifCond .eq 7, 3) := by decide +kernel
theorem dX8_replay_7 : decode cX8_replay 7 = .ok (.iload_n 2, 1) := by decide +kernel
theorem dX8_replay_8 : decode cX8_replay 8 = .ok (.ifCond .ge 7, 3) := by decide +kernel
theorem dX8_replay_11 : decode cX8_replay 11 = .ok (.ldc2_w 149, 3) := by decide +kernel
theorem dX8_replay_14 : decode cX8_replay 14 = .ok (.lreturn, 1) := by decide +kernel
theorem dX8_replay_15 : decode cX8_replay 15 = .ok (.iload_n 3, 1) := by decide +kernel
theorem dX8_replay_16 : decode cX8_replay 16 = .ok (.iconst (-1), 1) := by decide +kernel
theorem dX8_replay_17 : decode cX8_replay 17 = .ok (.if_icmp .ne 18, 3) := by decide +kernel
theorem dX8_replay_20 : decode cX8_replay 20 = .ok (.aload_n 0, 1) := by decide +kernel
theorem dX8_replay_21 : decode cX8_replay 21 = .ok (.getfield 12, 3) := by decide +kernel
theorem dX8_replay_24 : decode cX8_replay 24 = .ok (.getfield 69, 3) := by decide +kernel
theorem dX8_replay_27 : decode cX8_replay 27 = .ok (.iload_n 1, 1) := by decide +kernel
theorem dX8_replay_28 : decode cX8_replay 28 = .ok (.aaload, 1) := by decide +kernel
theorem dX8_replay_29 : decode cX8_replay 29 = .ok (.iload_n 2, 1) := by decide +kernel
theorem dX8_replay_30 : decode cX8_replay 30 = .ok (.invokevirtual 124, 3) := by decide +kernel
theorem dX8_replay_33 : decode cX8_replay 33 = .ok (.i2l, 1) := by decide +kernel
theorem dX8_replay_34 : decode cX8_replay 34 = .ok (.lreturn, 1) := by decide +kernel
theorem dX8_replay_35 : decode cX8_replay 35 = .ok (.iload_n 3, 1) := by decide +kernel
theorem dX8_replay_36 : decode cX8_replay 36 = .ok (.invokestatic 181, 3) := by decide +kernel
theorem dX8_replay_39 : decode cX8_replay 39 = .ok (.ifCond .eq 20, 3) := by decide +kernel
theorem dX8_replay_42 : decode cX8_replay 42 = .ok (.aload_n 0, 1) := by decide +kernel
theorem dX8_replay_43 : decode cX8_replay 43 = .ok (.getfield 12, 3) := by decide +kernel
theorem dX8_replay_46 : decode cX8_replay 46 = .ok (.getfield 69, 3) := by decide +kernel
theorem dX8_replay_49 : decode cX8_replay 49 = .ok (.iload_n 1, 1) := by decide +kernel
theorem dX8_replay_50 : decode cX8_replay 50 = .ok (.aaload, 1) := by decide +kernel
theorem dX8_replay_51 : decode cX8_replay 51 = .ok (.iload_n 3, 1) := by decide +kernel
theorem dX8_replay_52 : decode cX8_replay 52 = .ok (.iload_n 2, 1) := by decide +kernel
theorem dX8_replay_53 : decode cX8_replay 53 = .ok (.invokevirtual 184, 3) := by decide +kernel
theorem dX8_replay_56 : decode cX8_replay 56 = .ok (.goto 6, 3) := by decide +kernel
theorem dX8_replay_59 : decode cX8_replay 59 = .ok (.ldc2_w 149, 3) := by decide +kernel
theorem dX8_replay_62 : decode cX8_replay 62 = .ok (.lreturn, 1) := by decide +kernel
theorem dX8_near_0 : decode cX8_near 0 = .ok (.iload_n 1, 1) := by decide +kernel
theorem dX8_near_1 : decode cX8_near 1 = .ok (.invokestatic 65, 3) := by decide +kernel
theorem dX8_near_4 : decode cX8_near 4 = .ok (.ifCond .eq 12, 3) := by decide +kernel
theorem dX8_near_7 : decode cX8_near 7 = .ok (.iload_n 3, 1) := by decide +kernel
theorem dX8_near_8 : decode cX8_near 8 = .ok (.ifCond .lt 8, 3) := by decide +kernel
theorem dX8_near_11 : decode cX8_near 11 = .ok (.iload_n 3, 1) := by decide +kernel
theorem dX8_near_12 : decode cX8_near 12 = .ok (.iconst 1, 1) := by decide +kernel
theorem dX8_near_13 : decode cX8_near 13 = .ok (.if_icmp .le 5, 3) := by decide +kernel
theorem dX8_near_16 : decode cX8_near 16 = .ok (.iconst (-1), 1) := by decide +kernel
theorem dX8_near_17 : decode cX8_near 17 = .ok (.ireturn, 1) := by decide +kernel
theorem dX8_near_18 : decode cX8_near 18 = .ok (.iload_n 3, 1) := by decide +kernel
theorem dX8_near_19 : decode cX8_near 19 = .ok (.ifCond .ne 19, 3) := by decide +kernel
theorem dX8_near_22 : decode cX8_near 22 = .ok (.aload_n 0, 1) := by decide +kernel
theorem dX8_near_23 : decode cX8_near 23 = .ok (.getfield 12, 3) := by decide +kernel
theorem dX8_near_26 : decode cX8_near 26 = .ok (.getfield 69, 3) := by decide +kernel
theorem dX8_near_29 : decode cX8_near 29 = .ok (.iload_n 1, 1) := by decide +kernel
theorem dX8_near_30 : decode cX8_near 30 = .ok (.aaload, 1) := by decide +kernel
theorem dX8_near_31 : decode cX8_near 31 = .ok (.iload_n 2, 1) := by decide +kernel
theorem dX8_near_32 : decode cX8_near 32 = .ok (.invokevirtual 143, 3) := by decide +kernel
theorem dX8_near_35 : decode cX8_near 35 = .ok (.goto 16, 3) := by decide +kernel
theorem dX8_near_38 : decode cX8_near 38 = .ok (.aload_n 0, 1) := by decide +kernel
theorem dX8_near_39 : decode cX8_near 39 = .ok (.getfield 12, 3) := by decide +kernel
theorem dX8_near_42 : decode cX8_near 42 = .ok (.getfield 69, 3) := by decide +kernel
theorem dX8_near_45 : decode cX8_near 45 = .ok (.iload_n 1, 1) := by decide +kernel
theorem dX8_near_46 : decode cX8_near 46 = .ok (.aaload, 1) := by decide +kernel
theorem dX8_near_47 : decode cX8_near 47 = .ok (.iload_n 2, 1) := by decide +kernel
theorem dX8_near_48 : decode cX8_near 48 = .ok (.invokevirtual 140, 3) := by decide +kernel
theorem dX8_near_51 : decode cX8_near 51 = .ok (.ireturn, 1) := by decide +kernel
theorem dX8_oldest_0 : decode cX8_oldest 0 = .ok (.iload_n 1, 1) := by decide +kernel
theorem dX8_oldest_1 : decode cX8_oldest 1 = .ok (.invokestatic 65, 3) := by decide +kernel
theorem dX8_oldest_4 : decode cX8_oldest 4 = .ok (.ifCond .eq 23, 3) := by decide +kernel
theorem dX8_oldest_7 : decode cX8_oldest 7 = .ok (.iload_n 2, 1) := by decide +kernel
theorem dX8_oldest_8 : decode cX8_oldest 8 = .ok (.ifCond .lt 19, 3) := by decide +kernel
theorem dX8_oldest_11 : decode cX8_oldest 11 = .ok (.aload_n 0, 1) := by decide +kernel
theorem dX8_oldest_12 : decode cX8_oldest 12 = .ok (.getfield 12, 3) := by decide +kernel
theorem dX8_oldest_15 : decode cX8_oldest 15 = .ok (.getfield 69, 3) := by decide +kernel
theorem dX8_oldest_18 : decode cX8_oldest 18 = .ok (.iload_n 1, 1) := by decide +kernel
theorem dX8_oldest_19 : decode cX8_oldest 19 = .ok (.aaload, 1) := by decide +kernel
theorem dX8_oldest_20 : decode cX8_oldest 20 = .ok (.iload_n 2, 1) := by decide +kernel
theorem dX8_oldest_21 : decode cX8_oldest 21 = .ok (.invokevirtual 201, 3) := by decide +kernel
theorem dX8_oldest_24 : decode cX8_oldest 24 = .ok (.goto 4, 3) := by decide +kernel
theorem dX8_oldest_27 : decode cX8_oldest 27 = .ok (.iconst (-1), 1) := by decide +kernel
theorem dX8_oldest_28 : decode cX8_oldest 28 = .ok (.ireturn, 1) := by decide +kernel
theorem dX8_would_0 : decode cX8_would 0 = .ok (.iload_n 1, 1) := by decide +kernel
theorem dX8_would_1 : decode cX8_would 1 = .ok (.invokestatic 65, 3) := by decide +kernel
theorem dX8_would_4 : decode cX8_would 4 = .ok (.ifCond .eq 12, 3) := by decide +kernel
theorem dX8_would_7 : decode cX8_would 7 = .ok (.iload_n 2, 1) := by decide +kernel
theorem dX8_would_8 : decode cX8_would 8 = .ok (.ifCond .lt 8, 3) := by decide +kernel
theorem dX8_would_11 : decode cX8_would 11 = .ok (.iload_n 2, 1) := by decide +kernel
theorem dX8_would_12 : decode cX8_would 12 = .ok (.iconst 1, 1) := by decide +kernel
theorem dX8_would_13 : decode cX8_would 13 = .ok (.if_icmp .le 5, 3) := by decide +kernel
theorem dX8_would_16 : decode cX8_would 16 = .ok (.iconst (-1), 1) := by decide +kernel
theorem dX8_would_17 : decode cX8_would 17 = .ok (.ireturn, 1) := by decide +kernel
theorem dX8_would_18 : decode cX8_would 18 = .ok (.aload_n 0, 1) := by decide +kernel
theorem dX8_would_19 : decode cX8_would 19 = .ok (.getfield 12, 3) := by decide +kernel
theorem dX8_would_22 : decode cX8_would 22 = .ok (.getfield 69, 3) := by decide +kernel
theorem dX8_would_25 : decode cX8_would 25 = .ok (.iload_n 1, 1) := by decide +kernel
theorem dX8_would_26 : decode cX8_would 26 = .ok (.aaload, 1) := by decide +kernel
theorem dX8_would_27 : decode cX8_would 27 = .ok (.astore_n 3, 1) := by decide +kernel
theorem dX8_would_28 : decode cX8_would 28 = .ok (.iload_n 2, 1) := by decide +kernel
theorem dX8_would_29 : decode cX8_would 29 = .ok (.ifCond .ne 24, 3) := by decide +kernel
theorem dX8_would_32 : decode cX8_would 32 = .ok (.aload_n 3, 1) := by decide +kernel
theorem dX8_would_33 : decode cX8_would 33 = .ok (.aload_n 0, 1) := by decide +kernel
theorem dX8_would_34 : decode cX8_would 34 = .ok (.getfield 12, 3) := by decide +kernel
theorem dX8_would_37 : decode cX8_would 37 = .ok (.getfield 51, 3) := by decide +kernel
theorem dX8_would_40 : decode cX8_would 40 = .ok (.aload_n 0, 1) := by decide +kernel
theorem dX8_would_41 : decode cX8_would 41 = .ok (.getfield 12, 3) := by decide +kernel
theorem dX8_would_44 : decode cX8_would 44 = .ok (.getfield 73, 3) := by decide +kernel
theorem dX8_would_47 : decode cX8_would 47 = .ok (.invokevirtual 204, 3) := by decide +kernel
theorem dX8_would_50 : decode cX8_would 50 = .ok (.goto 28, 3) := by decide +kernel
theorem dX8_would_53 : decode cX8_would 53 = .ok (.aload_n 3, 1) := by decide +kernel
theorem dX8_would_54 : decode cX8_would 54 = .ok (.aload_n 0, 1) := by decide +kernel
theorem dX8_would_55 : decode cX8_would 55 = .ok (.getfield 12, 3) := by decide +kernel
theorem dX8_would_58 : decode cX8_would 58 = .ok (.getfield 79, 3) := by decide +kernel
theorem dX8_would_61 : decode cX8_would 61 = .ok (.aload_n 0, 1) := by decide +kernel
theorem dX8_would_62 : decode cX8_would 62 = .ok (.getfield 12, 3) := by decide +kernel
theorem dX8_would_65 : decode cX8_would 65 = .ok (.getfield 51, 3) := by decide +kernel
theorem dX8_would_68 : decode cX8_would 68 = .ok (.aload_n 0, 1) := by decide +kernel
theorem dX8_would_69 : decode cX8_would 69 = .ok (.getfield 12, 3) := by decide +kernel
theorem dX8_would_72 : decode cX8_would 72 = .ok (.getfield 82, 3) := by decide +kernel
theorem dX8_would_75 : decode cX8_would 75 = .ok (.invokevirtual 207, 3) := by decide +kernel
theorem dX8_would_78 : decode cX8_would 78 = .ok (.ireturn, 1) := by decide +kernel
theorem dX8_need_0 : decode cX8_need 0 = .ok (.iload_n 1, 1) := by decide +kernel
theorem dX8_need_1 : decode cX8_need 1 = .ok (.invokestatic 65, 3) := by decide +kernel
theorem dX8_need_4 : decode cX8_need 4 = .ok (.ifCond .ne 5, 3) := by decide +kernel
theorem dX8_need_7 : decode cX8_need 7 = .ok (.iconst (-1), 1) := by decide +kernel
theorem dX8_need_8 : decode cX8_need 8 = .ok (.ireturn, 1) := by decide +kernel
theorem dX8_need_9 : decode cX8_need 9 = .ok (.iload_n 2, 1) := by decide +kernel
theorem dX8_need_10 : decode cX8_need 10 = .ok (.ifCond .lt 10, 3) := by decide +kernel
theorem dX8_need_13 : decode cX8_need 13 = .ok (.iload_n 2, 1) := by decide +kernel
theorem dX8_need_14 : decode cX8_need 14 = .ok (.sipush 200, 3) := by decide +kernel
theorem dX8_need_17 : decode cX8_need 17 = .ok (.if_icmp .le 6, 3) := by decide +kernel
theorem dX8_need_20 : decode cX8_need 20 = .ok (.bipush (-2), 2) := by decide +kernel
theorem dX8_need_22 : decode cX8_need 22 = .ok (.ireturn, 1) := by decide +kernel
theorem dX8_need_23 : decode cX8_need 23 = .ok (.aload_n 0, 1) := by decide +kernel
theorem dX8_need_24 : decode cX8_need 24 = .ok (.aload_n 0, 1) := by decide +kernel
theorem dX8_need_25 : decode cX8_need 25 = .ok (.getfield 12, 3) := by decide +kernel
theorem dX8_need_28 : decode cX8_need 28 = .ok (.getfield 69, 3) := by decide +kernel
theorem dX8_need_31 : decode cX8_need 31 = .ok (.iload_n 1, 1) := by decide +kernel
theorem dX8_need_32 : decode cX8_need 32 = .ok (.aaload, 1) := by decide +kernel
theorem dX8_need_33 : decode cX8_need 33 = .ok (.iload_n 2, 1) := by decide +kernel
theorem dX8_need_34 : decode cX8_need 34 = .ok (.invokevirtual 210, 3) := by decide +kernel
theorem dX8_need_37 : decode cX8_need 37 = .ok (.ireturn, 1) := by decide +kernel
theorem dX8_join_0 : decode cX8_join 0 = .ok (.iload_n 1, 1) := by decide +kernel
theorem dX8_join_1 : decode cX8_join 1 = .ok (.invokestatic 214, 3) := by decide +kernel
theorem dX8_join_4 : decode cX8_join 4 = .ok (.ifCond .ne 5, 3) := by decide +kernel
theorem dX8_join_7 : decode cX8_join 7 = .ok (.iconst (-1), 1) := by decide +kernel
theorem dX8_join_8 : decode cX8_join 8 = .ok (.ireturn, 1) := by decide +kernel
theorem dX8_join_9 : decode cX8_join 9 = .ok (.aload_n 0, 1) := by decide +kernel
theorem dX8_join_10 : decode cX8_join 10 = .ok (.getfield 12, 3) := by decide +kernel
theorem dX8_join_13 : decode cX8_join 13 = .ok (.getfield 127, 3) := by decide +kernel
theorem dX8_join_16 : decode cX8_join 16 = .ok (.getfield 217, 3) := by decide +kernel
theorem dX8_join_19 : decode cX8_join 19 = .ok (.iload_n 1, 1) := by decide +kernel
theorem dX8_join_20 : decode cX8_join 20 = .ok (.baload, 1) := by decide +kernel
theorem dX8_join_21 : decode cX8_join 21 = .ok (.ifCond .eq 8, 3) := by decide +kernel
theorem dX8_join_24 : decode cX8_join 24 = .ok (.bipush (-3), 2) := by decide +kernel
theorem dX8_join_26 : decode cX8_join 26 = .ok (.goto 15, 3) := by decide +kernel
theorem dX8_join_29 : decode cX8_join 29 = .ok (.aload_n 0, 1) := by decide +kernel
theorem dX8_join_30 : decode cX8_join 30 = .ok (.getfield 12, 3) := by decide +kernel
theorem dX8_join_33 : decode cX8_join 33 = .ok (.getfield 127, 3) := by decide +kernel
theorem dX8_join_36 : decode cX8_join 36 = .ok (.iload_n 1, 1) := by decide +kernel
theorem dX8_join_37 : decode cX8_join 37 = .ok (.iconst 1, 1) := by decide +kernel
theorem dX8_join_38 : decode cX8_join 38 = .ok (.invokevirtual 221, 3) := by decide +kernel
theorem dX8_join_41 : decode cX8_join 41 = .ok (.ireturn, 1) := by decide +kernel
theorem dX8_leave_0 : decode cX8_leave 0 = .ok (.iload_n 1, 1) := by decide +kernel
theorem dX8_leave_1 : decode cX8_leave 1 = .ok (.invokestatic 214, 3) := by decide +kernel
theorem dX8_leave_4 : decode cX8_leave 4 = .ok (.ifCond .ne 5, 3) := by decide +kernel
theorem dX8_leave_7 : decode cX8_leave 7 = .ok (.iconst (-1), 1) := by decide +kernel
theorem dX8_leave_8 : decode cX8_leave 8 = .ok (.ireturn, 1) := by decide +kernel
theorem dX8_leave_9 : decode cX8_leave 9 = .ok (.aload_n 0, 1) := by decide +kernel
theorem dX8_leave_10 : decode cX8_leave 10 = .ok (.getfield 12, 3) := by decide +kernel
theorem dX8_leave_13 : decode cX8_leave 13 = .ok (.getfield 127, 3) := by decide +kernel
theorem dX8_leave_16 : decode cX8_leave 16 = .ok (.getfield 217, 3) := by decide +kernel
theorem dX8_leave_19 : decode cX8_leave 19 = .ok (.iload_n 1, 1) := by decide +kernel
theorem dX8_leave_20 : decode cX8_leave 20 = .ok (.baload, 1) := by decide +kernel
theorem dX8_leave_21 : decode cX8_leave 21 = .ok (.ifCond .eq 18, 3) := by decide +kernel
theorem dX8_leave_24 : decode cX8_leave 24 = .ok (.aload_n 0, 1) := by decide +kernel
theorem dX8_leave_25 : decode cX8_leave 25 = .ok (.getfield 12, 3) := by decide +kernel
theorem dX8_leave_28 : decode cX8_leave 28 = .ok (.getfield 127, 3) := by decide +kernel
theorem dX8_leave_31 : decode cX8_leave 31 = .ok (.iload_n 1, 1) := by decide +kernel
theorem dX8_leave_32 : decode cX8_leave 32 = .ok (.iconst 0, 1) := by decide +kernel
theorem dX8_leave_33 : decode cX8_leave 33 = .ok (.invokevirtual 221, 3) := by decide +kernel
theorem dX8_leave_36 : decode cX8_leave 36 = .ok (.goto 5, 3) := by decide +kernel
theorem dX8_leave_39 : decode cX8_leave 39 = .ok (.bipush (-3), 2) := by decide +kernel
theorem dX8_leave_41 : decode cX8_leave 41 = .ok (.ireturn, 1) := by decide +kernel
theorem dX8_poll_0 : decode cX8_poll 0 = .ok (.iload_n 1, 1) := by decide +kernel
theorem dX8_poll_1 : decode cX8_poll 1 = .ok (.invokestatic 214, 3) := by decide +kernel
theorem dX8_poll_4 : decode cX8_poll 4 = .ok (.ifCond .ne 5, 3) := by decide +kernel
theorem dX8_poll_7 : decode cX8_poll 7 = .ok (.iconst (-1), 1) := by decide +kernel
theorem dX8_poll_8 : decode cX8_poll 8 = .ok (.ireturn, 1) := by decide +kernel
theorem dX8_poll_9 : decode cX8_poll 9 = .ok (.aload_n 0, 1) := by decide +kernel
theorem dX8_poll_10 : decode cX8_poll 10 = .ok (.getfield 12, 3) := by decide +kernel
theorem dX8_poll_13 : decode cX8_poll 13 = .ok (.getfield 127, 3) := by decide +kernel
theorem dX8_poll_16 : decode cX8_poll 16 = .ok (.getfield 217, 3) := by decide +kernel
theorem dX8_poll_19 : decode cX8_poll 19 = .ok (.iload_n 1, 1) := by decide +kernel
theorem dX8_poll_20 : decode cX8_poll 20 = .ok (.baload, 1) := by decide +kernel
theorem dX8_poll_21 : decode cX8_poll 21 = .ok (.ifCond .eq 24, 3) := by decide +kernel
theorem dX8_poll_24 : decode cX8_poll 24 = .ok (.aload_n 0, 1) := by decide +kernel
theorem dX8_poll_25 : decode cX8_poll 25 = .ok (.getfield 12, 3) := by decide +kernel
theorem dX8_poll_28 : decode cX8_poll 28 = .ok (.getfield 127, 3) := by decide +kernel
theorem dX8_poll_31 : decode cX8_poll 31 = .ok (.iload_n 1, 1) := by decide +kernel
theorem dX8_poll_32 : decode cX8_poll 32 = .ok (.aload_n 0, 1) := by decide +kernel
theorem dX8_poll_33 : decode cX8_poll 33 = .ok (.getfield 12, 3) := by decide +kernel
theorem dX8_poll_36 : decode cX8_poll 36 = .ok (.getfield 69, 3) := by decide +kernel
theorem dX8_poll_39 : decode cX8_poll 39 = .ok (.invokevirtual 225, 3) := by decide +kernel
theorem dX8_poll_42 : decode cX8_poll 42 = .ok (.goto 5, 3) := by decide +kernel
theorem dX8_poll_45 : decode cX8_poll 45 = .ok (.bipush (-3), 2) := by decide +kernel
theorem dX8_poll_47 : decode cX8_poll 47 = .ok (.ireturn, 1) := by decide +kernel
theorem dX8_seek_0 : decode cX8_seek 0 = .ok (.iload_n 1, 1) := by decide +kernel
theorem dX8_seek_1 : decode cX8_seek 1 = .ok (.invokestatic 65, 3) := by decide +kernel
theorem dX8_seek_4 : decode cX8_seek 4 = .ok (.ifCond .ne 5, 3) := by decide +kernel
theorem dX8_seek_7 : decode cX8_seek 7 = .ok (.iconst (-1), 1) := by decide +kernel
theorem dX8_seek_8 : decode cX8_seek 8 = .ok (.ireturn, 1) := by decide +kernel
theorem dX8_seek_9 : decode cX8_seek 9 = .ok (.iload_n 2, 1) := by decide +kernel
theorem dX8_seek_10 : decode cX8_seek 10 = .ok (.ifCond .lt 19, 3) := by decide +kernel
theorem dX8_seek_13 : decode cX8_seek 13 = .ok (.iload_n 2, 1) := by decide +kernel
theorem dX8_seek_14 : decode cX8_seek 14 = .ok (.aload_n 0, 1) := by decide +kernel
theorem dX8_seek_15 : decode cX8_seek 15 = .ok (.getfield 12, 3) := by decide +kernel
theorem dX8_seek_18 : decode cX8_seek 18 = .ok (.getfield 69, 3) := by decide +kernel
theorem dX8_seek_21 : decode cX8_seek 21 = .ok (.iload_n 1, 1) := by decide +kernel
theorem dX8_seek_22 : decode cX8_seek 22 = .ok (.aaload, 1) := by decide +kernel
theorem dX8_seek_23 : decode cX8_seek 23 = .ok (.getfield 115, 3) := by decide +kernel
theorem dX8_seek_26 : decode cX8_seek 26 = .ok (.if_icmp .le 6, 3) := by decide +kernel
theorem dX8_seek_29 : decode cX8_seek 29 = .ok (.bipush (-2), 2) := by decide +kernel
theorem dX8_seek_31 : decode cX8_seek 31 = .ok (.ireturn, 1) := by decide +kernel
theorem dX8_seek_32 : decode cX8_seek 32 = .ok (.aload_n 0, 1) := by decide +kernel
theorem dX8_seek_33 : decode cX8_seek 33 = .ok (.getfield 12, 3) := by decide +kernel
theorem dX8_seek_36 : decode cX8_seek 36 = .ok (.getfield 127, 3) := by decide +kernel
theorem dX8_seek_39 : decode cX8_seek 39 = .ok (.getfield 137, 3) := by decide +kernel
theorem dX8_seek_42 : decode cX8_seek 42 = .ok (.iload_n 1, 1) := by decide +kernel
theorem dX8_seek_43 : decode cX8_seek 43 = .ok (.iaload, 1) := by decide +kernel
theorem dX8_seek_44 : decode cX8_seek 44 = .ok (.istore_n 3, 1) := by decide +kernel
theorem dX8_seek_45 : decode cX8_seek 45 = .ok (.aload_n 0, 1) := by decide +kernel
theorem dX8_seek_46 : decode cX8_seek 46 = .ok (.getfield 12, 3) := by decide +kernel
theorem dX8_seek_49 : decode cX8_seek 49 = .ok (.getfield 127, 3) := by decide +kernel
theorem dX8_seek_52 : decode cX8_seek 52 = .ok (.getfield 137, 3) := by decide +kernel
theorem dX8_seek_55 : decode cX8_seek 55 = .ok (.iload_n 1, 1) := by decide +kernel
theorem dX8_seek_56 : decode cX8_seek 56 = .ok (.iload_n 2, 1) := by decide +kernel
theorem dX8_seek_57 : decode cX8_seek 57 = .ok (.iastore, 1) := by decide +kernel
theorem dX8_seek_58 : decode cX8_seek 58 = .ok (.iload_n 3, 1) := by decide +kernel
theorem dX8_seek_59 : decode cX8_seek 59 = .ok (.ireturn, 1) := by decide +kernel
theorem dX8_member_0 : decode cX8_member 0 = .ok (.iload_n 1, 1) := by decide +kernel
theorem dX8_member_1 : decode cX8_member 1 = .ok (.invokestatic 214, 3) := by decide +kernel
theorem dX8_member_4 : decode cX8_member 4 = .ok (.ifCond .ne 5, 3) := by decide +kernel
theorem dX8_member_7 : decode cX8_member 7 = .ok (.iconst (-1), 1) := by decide +kernel
theorem dX8_member_8 : decode cX8_member 8 = .ok (.ireturn, 1) := by decide +kernel
theorem dX8_member_9 : decode cX8_member 9 = .ok (.iload_n 2, 1) := by decide +kernel
theorem dX8_member_10 : decode cX8_member 10 = .ok (.tableswitch 78 0 2 #[26, 47, 59], 26) := by decide +kernel
theorem dX8_member_36 : decode cX8_member 36 = .ok (.aload_n 0, 1) := by decide +kernel
theorem dX8_member_37 : decode cX8_member 37 = .ok (.getfield 12, 3) := by decide +kernel
theorem dX8_member_40 : decode cX8_member 40 = .ok (.getfield 127, 3) := by decide +kernel
theorem dX8_member_43 : decode cX8_member 43 = .ok (.getfield 217, 3) := by decide +kernel
theorem dX8_member_46 : decode cX8_member 46 = .ok (.iload_n 1, 1) := by decide +kernel
theorem dX8_member_47 : decode cX8_member 47 = .ok (.baload, 1) := by decide +kernel
theorem dX8_member_48 : decode cX8_member 48 = .ok (.ifCond .eq 7, 3) := by decide +kernel
theorem dX8_member_51 : decode cX8_member 51 = .ok (.iconst 1, 1) := by decide +kernel
theorem dX8_member_52 : decode cX8_member 52 = .ok (.goto 4, 3) := by decide +kernel
theorem dX8_member_55 : decode cX8_member 55 = .ok (.iconst 0, 1) := by decide +kernel
theorem dX8_member_56 : decode cX8_member 56 = .ok (.ireturn, 1) := by decide +kernel
theorem dX8_member_57 : decode cX8_member 57 = .ok (.aload_n 0, 1) := by decide +kernel
theorem dX8_member_58 : decode cX8_member 58 = .ok (.getfield 12, 3) := by decide +kernel
theorem dX8_member_61 : decode cX8_member 61 = .ok (.getfield 127, 3) := by decide +kernel
theorem dX8_member_64 : decode cX8_member 64 = .ok (.iload_n 1, 1) := by decide +kernel
theorem dX8_member_65 : decode cX8_member 65 = .ok (.invokevirtual 229, 3) := by decide +kernel
theorem dX8_member_68 : decode cX8_member 68 = .ok (.ireturn, 1) := by decide +kernel
theorem dX8_member_69 : decode cX8_member 69 = .ok (.aload_n 0, 1) := by decide +kernel
theorem dX8_member_70 : decode cX8_member 70 = .ok (.getfield 12, 3) := by decide +kernel
theorem dX8_member_73 : decode cX8_member 73 = .ok (.getfield 127, 3) := by decide +kernel
theorem dX8_member_76 : decode cX8_member 76 = .ok (.iload_n 1, 1) := by decide +kernel
theorem dX8_member_77 : decode cX8_member 77 = .ok (.aload_n 0, 1) := by decide +kernel
theorem dX8_member_78 : decode cX8_member 78 = .ok (.getfield 12, 3) := by decide +kernel
theorem dX8_member_81 : decode cX8_member 81 = .ok (.getfield 69, 3) := by decide +kernel
theorem dX8_member_84 : decode cX8_member 84 = .ok (.invokevirtual 232, 3) := by decide +kernel
theorem dX8_member_87 : decode cX8_member 87 = .ok (.ireturn, 1) := by decide +kernel
theorem dX8_member_88 : decode cX8_member 88 = .ok (.iconst (-1), 1) := by decide +kernel
theorem dX8_member_89 : decode cX8_member 89 = .ok (.ireturn, 1) := by decide +kernel
theorem dX8_told_0 : decode cX8_told 0 = .ok (.iload_n 1, 1) := by decide +kernel
theorem dX8_told_1 : decode cX8_told 1 = .ok (.tableswitch 93 0 5 #[39, 47, 55, 63, 71, 82], 39) := by decide +kernel
theorem dX8_told_40 : decode cX8_told 40 = .ok (.aload_n 0, 1) := by decide +kernel
theorem dX8_told_41 : decode cX8_told 41 = .ok (.getfield 12, 3) := by decide +kernel
theorem dX8_told_44 : decode cX8_told 44 = .ok (.getfield 51, 3) := by decide +kernel
theorem dX8_told_47 : decode cX8_told 47 = .ok (.ireturn, 1) := by decide +kernel
theorem dX8_told_48 : decode cX8_told 48 = .ok (.aload_n 0, 1) := by decide +kernel
theorem dX8_told_49 : decode cX8_told 49 = .ok (.getfield 12, 3) := by decide +kernel
theorem dX8_told_52 : decode cX8_told 52 = .ok (.getfield 73, 3) := by decide +kernel
theorem dX8_told_55 : decode cX8_told 55 = .ok (.ireturn, 1) := by decide +kernel
theorem dX8_told_56 : decode cX8_told 56 = .ok (.aload_n 0, 1) := by decide +kernel
theorem dX8_told_57 : decode cX8_told 57 = .ok (.getfield 12, 3) := by decide +kernel
theorem dX8_told_60 : decode cX8_told 60 = .ok (.getfield 79, 3) := by decide +kernel
theorem dX8_told_63 : decode cX8_told 63 = .ok (.ireturn, 1) := by decide +kernel
theorem dX8_told_64 : decode cX8_told 64 = .ok (.aload_n 0, 1) := by decide +kernel
theorem dX8_told_65 : decode cX8_told 65 = .ok (.getfield 12, 3) := by decide +kernel
theorem dX8_told_68 : decode cX8_told 68 = .ok (.getfield 82, 3) := by decide +kernel
theorem dX8_told_71 : decode cX8_told 71 = .ok (.ireturn, 1) := by decide +kernel
theorem dX8_told_72 : decode cX8_told 72 = .ok (.aload_n 0, 1) := by decide +kernel
theorem dX8_told_73 : decode cX8_told 73 = .ok (.getfield 12, 3) := by decide +kernel
theorem dX8_told_76 : decode cX8_told 76 = .ok (.getfield 127, 3) := by decide +kernel
theorem dX8_told_79 : decode cX8_told 79 = .ok (.getfield 235, 3) := by decide +kernel
theorem dX8_told_82 : decode cX8_told 82 = .ok (.ireturn, 1) := by decide +kernel
theorem dX8_told_83 : decode cX8_told 83 = .ok (.aload_n 0, 1) := by decide +kernel
theorem dX8_told_84 : decode cX8_told 84 = .ok (.getfield 12, 3) := by decide +kernel
theorem dX8_told_87 : decode cX8_told 87 = .ok (.getfield 127, 3) := by decide +kernel
theorem dX8_told_90 : decode cX8_told 90 = .ok (.invokevirtual 238, 3) := by decide +kernel
theorem dX8_told_93 : decode cX8_told 93 = .ok (.ireturn, 1) := by decide +kernel
theorem dX8_told_94 : decode cX8_told 94 = .ok (.iconst (-1), 1) := by decide +kernel
theorem dX8_told_95 : decode cX8_told 95 = .ok (.ireturn, 1) := by decide +kernel
theorem dX8_odds_0 : decode cX8_odds 0 = .ok (.iload_n 1, 1) := by decide +kernel
theorem dX8_odds_1 : decode cX8_odds 1 = .ok (.invokestatic 65, 3) := by decide +kernel
theorem dX8_odds_4 : decode cX8_odds 4 = .ok (.ifCond .eq 12, 3) := by decide +kernel
theorem dX8_odds_7 : decode cX8_odds 7 = .ok (.iload_n 2, 1) := by decide +kernel
theorem dX8_odds_8 : decode cX8_odds 8 = .ok (.ifCond .lt 8, 3) := by decide +kernel
theorem dX8_odds_11 : decode cX8_odds 11 = .ok (.iload_n 2, 1) := by decide +kernel
theorem dX8_odds_12 : decode cX8_odds 12 = .ok (.iconst 1, 1) := by decide +kernel
theorem dX8_odds_13 : decode cX8_odds 13 = .ok (.if_icmp .le 7, 3) := by decide +kernel
theorem dX8_odds_16 : decode cX8_odds 16 = .ok (.ldc2_w 149, 3) := by decide +kernel
theorem dX8_odds_19 : decode cX8_odds 19 = .ok (.lreturn, 1) := by decide +kernel
theorem dX8_odds_20 : decode cX8_odds 20 = .ok (.bipush 20, 2) := by decide +kernel
theorem dX8_odds_22 : decode cX8_odds 22 = .ok (.istore_n 3, 1) := by decide +kernel
theorem dX8_odds_23 : decode cX8_odds 23 = .ok (.aload_n 0, 1) := by decide +kernel
theorem dX8_odds_24 : decode cX8_odds 24 = .ok (.aload_n 0, 1) := by decide +kernel
theorem dX8_odds_25 : decode cX8_odds 25 = .ok (.getfield 12, 3) := by decide +kernel
theorem dX8_odds_28 : decode cX8_odds 28 = .ok (.getfield 69, 3) := by decide +kernel
theorem dX8_odds_31 : decode cX8_odds 31 = .ok (.iload_n 1, 1) := by decide +kernel
theorem dX8_odds_32 : decode cX8_odds 32 = .ok (.aaload, 1) := by decide +kernel
theorem dX8_odds_33 : decode cX8_odds 33 = .ok (.iload_n 3, 1) := by decide +kernel
theorem dX8_odds_34 : decode cX8_odds 34 = .ok (.invokevirtual 241, 3) := by decide +kernel
theorem dX8_odds_37 : decode cX8_odds 37 = .ok (.istore 4, 2) := by decide +kernel
theorem dX8_odds_39 : decode cX8_odds 39 = .ok (.iload 4, 2) := by decide +kernel
theorem dX8_odds_41 : decode cX8_odds 41 = .ok (.iload_n 3, 1) := by decide +kernel
theorem dX8_odds_42 : decode cX8_odds 42 = .ok (.invokestatic 244, 3) := by decide +kernel
theorem dX8_odds_45 : decode cX8_odds 45 = .ok (.istore 5, 2) := by decide +kernel
theorem dX8_odds_47 : decode cX8_odds 47 = .ok (.iload_n 2, 1) := by decide +kernel
theorem dX8_odds_48 : decode cX8_odds 48 = .ok (.ifCond .ne 8, 3) := by decide +kernel
theorem dX8_odds_51 : decode cX8_odds 51 = .ok (.iload 4, 2) := by decide +kernel
theorem dX8_odds_53 : decode cX8_odds 53 = .ok (.goto 4, 3) := by decide +kernel
theorem dX8_odds_56 : decode cX8_odds 56 = .ok (.iload_n 3, 1) := by decide +kernel
theorem dX8_odds_57 : decode cX8_odds 57 = .ok (.iload 5, 2) := by decide +kernel
theorem dX8_odds_59 : decode cX8_odds 59 = .ok (.iconst 1, 1) := by decide +kernel
theorem dX8_odds_60 : decode cX8_odds 60 = .ok (.invokestatic 247, 3) := by decide +kernel
theorem dX8_odds_63 : decode cX8_odds 63 = .ok (.idiv, 1) := by decide +kernel
theorem dX8_odds_64 : decode cX8_odds 64 = .ok (.i2l, 1) := by decide +kernel
theorem dX8_odds_65 : decode cX8_odds 65 = .ok (.lreturn, 1) := by decide +kernel
theorem dX8_plan_0 : decode cX8_plan 0 = .ok (.iload_n 1, 1) := by decide +kernel
theorem dX8_plan_1 : decode cX8_plan 1 = .ok (.iconst (-1), 1) := by decide +kernel
theorem dX8_plan_2 : decode cX8_plan 2 = .ok (.if_icmp .ne 16, 3) := by decide +kernel
theorem dX8_plan_5 : decode cX8_plan 5 = .ok (.aload_n 0, 1) := by decide +kernel
theorem dX8_plan_6 : decode cX8_plan 6 = .ok (.getfield 12, 3) := by decide +kernel
theorem dX8_plan_9 : decode cX8_plan 9 = .ok (.getfield 252, 3) := by decide +kernel
theorem dX8_plan_12 : decode cX8_plan 12 = .ok (.iconst 0, 1) := by decide +kernel
theorem dX8_plan_13 : decode cX8_plan 13 = .ok (.putfield 256, 3) := by decide +kernel
theorem dX8_plan_16 : decode cX8_plan 16 = .ok (.iconst 0, 1) := by decide +kernel
theorem dX8_plan_17 : decode cX8_plan 17 = .ok (.ireturn, 1) := by decide +kernel
theorem dX8_plan_18 : decode cX8_plan 18 = .ok (.iload_n 1, 1) := by decide +kernel
theorem dX8_plan_19 : decode cX8_plan 19 = .ok (.ifCond .lt 32, 3) := by decide +kernel
theorem dX8_plan_22 : decode cX8_plan 22 = .ok (.iload_n 1, 1) := by decide +kernel
theorem dX8_plan_23 : decode cX8_plan 23 = .ok (.iconst 3, 1) := by decide +kernel
theorem dX8_plan_24 : decode cX8_plan 24 = .ok (.if_icmp .gt 27, 3) := by decide +kernel
theorem dX8_plan_27 : decode cX8_plan 27 = .ok (.iload_n 1, 1) := by decide +kernel
theorem dX8_plan_28 : decode cX8_plan 28 = .ok (.iconst 2, 1) := by decide +kernel
theorem dX8_plan_29 : decode cX8_plan 29 = .ok (.if_icmp .ge 10, 3) := by decide +kernel
theorem dX8_plan_32 : decode cX8_plan 32 = .ok (.iload_n 2, 1) := by decide +kernel
theorem dX8_plan_33 : decode cX8_plan 33 = .ok (.invokestatic 65, 3) := by decide +kernel
theorem dX8_plan_36 : decode cX8_plan 36 = .ok (.ifCond .eq 15, 3) := by decide +kernel
theorem dX8_plan_39 : decode cX8_plan 39 = .ok (.iload_n 1, 1) := by decide +kernel
theorem dX8_plan_40 : decode cX8_plan 40 = .ok (.iconst 2, 1) := by decide +kernel
theorem dX8_plan_41 : decode cX8_plan 41 = .ok (.if_icmp .ne 12, 3) := by decide +kernel
theorem dX8_plan_44 : decode cX8_plan 44 = .ok (.iload_n 2, 1) := by decide +kernel
theorem dX8_plan_45 : decode cX8_plan 45 = .ok (.invokestatic 214, 3) := by decide +kernel
theorem dX8_plan_48 : decode cX8_plan 48 = .ok (.ifCond .ne 5, 3) := by decide +kernel
theorem dX8_plan_51 : decode cX8_plan 51 = .ok (.iconst (-1), 1) := by decide +kernel
theorem dX8_plan_52 : decode cX8_plan 52 = .ok (.ireturn, 1) := by decide +kernel
theorem dX8_plan_53 : decode cX8_plan 53 = .ok (.iload_n 1, 1) := by decide +kernel
theorem dX8_plan_54 : decode cX8_plan 54 = .ok (.iconst 3, 1) := by decide +kernel
theorem dX8_plan_55 : decode cX8_plan 55 = .ok (.if_icmp .ne 16, 3) := by decide +kernel
theorem dX8_plan_58 : decode cX8_plan 58 = .ok (.iload_n 2, 1) := by decide +kernel
theorem dX8_plan_59 : decode cX8_plan 59 = .ok (.ifCond .lt 9, 3) := by decide +kernel
theorem dX8_plan_62 : decode cX8_plan 62 = .ok (.iload_n 2, 1) := by decide +kernel
theorem dX8_plan_63 : decode cX8_plan 63 = .ok (.bipush 99, 2) := by decide +kernel
theorem dX8_plan_65 : decode cX8_plan 65 = .ok (.if_icmp .le 6, 3) := by decide +kernel
theorem dX8_plan_68 : decode cX8_plan 68 = .ok (.bipush (-2), 2) := by decide +kernel
theorem dX8_plan_70 : decode cX8_plan 70 = .ok (.ireturn, 1) := by decide +kernel
theorem dX8_plan_71 : decode cX8_plan 71 = .ok (.aload_n 0, 1) := by decide +kernel
theorem dX8_plan_72 : decode cX8_plan 72 = .ok (.getfield 12, 3) := by decide +kernel
theorem dX8_plan_75 : decode cX8_plan 75 = .ok (.getfield 252, 3) := by decide +kernel
theorem dX8_plan_78 : decode cX8_plan 78 = .ok (.invokevirtual 261, 3) := by decide +kernel
theorem dX8_plan_81 : decode cX8_plan 81 = .ok (.ifCond .eq 8, 3) := by decide +kernel
theorem dX8_plan_84 : decode cX8_plan 84 = .ok (.bipush (-4), 2) := by decide +kernel
theorem dX8_plan_86 : decode cX8_plan 86 = .ok (.goto 15, 3) := by decide +kernel
theorem dX8_plan_89 : decode cX8_plan 89 = .ok (.aload_n 0, 1) := by decide +kernel
theorem dX8_plan_90 : decode cX8_plan 90 = .ok (.getfield 12, 3) := by decide +kernel
theorem dX8_plan_93 : decode cX8_plan 93 = .ok (.getfield 252, 3) := by decide +kernel
theorem dX8_plan_96 : decode cX8_plan 96 = .ok (.iload_n 1, 1) := by decide +kernel
theorem dX8_plan_97 : decode cX8_plan 97 = .ok (.iload_n 2, 1) := by decide +kernel
theorem dX8_plan_98 : decode cX8_plan 98 = .ok (.invokevirtual 262, 3) := by decide +kernel
theorem dX8_plan_101 : decode cX8_plan 101 = .ok (.ireturn, 1) := by decide +kernel
theorem dX8_ends_0 : decode cX8_ends 0 = .ok (.iload_n 1, 1) := by decide +kernel
theorem dX8_ends_1 : decode cX8_ends 1 = .ok (.ifCond .lt 8, 3) := by decide +kernel
theorem dX8_ends_4 : decode cX8_ends 4 = .ok (.iload_n 1, 1) := by decide +kernel
theorem dX8_ends_5 : decode cX8_ends 5 = .ok (.iconst 1, 1) := by decide +kernel
theorem dX8_ends_6 : decode cX8_ends 6 = .ok (.if_icmp .le 5, 3) := by decide +kernel
theorem dX8_ends_9 : decode cX8_ends 9 = .ok (.iconst (-1), 1) := by decide +kernel
theorem dX8_ends_10 : decode cX8_ends 10 = .ok (.ireturn, 1) := by decide +kernel
theorem dX8_ends_11 : decode cX8_ends 11 = .ok (.aload_n 0, 1) := by decide +kernel
theorem dX8_ends_12 : decode cX8_ends 12 = .ok (.getfield 265, 3) := by decide +kernel
theorem dX8_ends_15 : decode cX8_ends 15 = .ok (.ifnonnull 14, 3) := by decide +kernel
theorem dX8_ends_18 : decode cX8_ends 18 = .ok (.aload_n 0, 1) := by decide +kernel
theorem dX8_ends_19 : decode cX8_ends 19 = .ok (.new 9, 3) := by decide +kernel
theorem dX8_ends_22 : decode cX8_ends 22 = .ok (.dup, 1) := by decide +kernel
theorem dX8_ends_23 : decode cX8_ends 23 = .ok (.invokespecial 11, 3) := by decide +kernel
theorem dX8_ends_26 : decode cX8_ends 26 = .ok (.putfield 265, 3) := by decide +kernel
theorem dX8_ends_29 : decode cX8_ends 29 = .ok (.aload_n 0, 1) := by decide +kernel
theorem dX8_ends_30 : decode cX8_ends 30 = .ok (.getfield 265, 3) := by decide +kernel
theorem dX8_ends_33 : decode cX8_ends 33 = .ok (.aload_n 0, 1) := by decide +kernel
theorem dX8_ends_34 : decode cX8_ends 34 = .ok (.getfield 12, 3) := by decide +kernel
theorem dX8_ends_37 : decode cX8_ends 37 = .ok (.invokevirtual 268, 3) := by decide +kernel
theorem dX8_ends_40 : decode cX8_ends 40 = .ok (.aload_n 0, 1) := by decide +kernel
theorem dX8_ends_41 : decode cX8_ends 41 = .ok (.getfield 265, 3) := by decide +kernel
theorem dX8_ends_44 : decode cX8_ends 44 = .ok (.invokevirtual 272, 3) := by decide +kernel
theorem dX8_ends_47 : decode cX8_ends 47 = .ok (.iload_n 1, 1) := by decide +kernel
theorem dX8_ends_48 : decode cX8_ends 48 = .ok (.ifCond .ne 13, 3) := by decide +kernel
theorem dX8_ends_51 : decode cX8_ends 51 = .ok (.aload_n 0, 1) := by decide +kernel
theorem dX8_ends_52 : decode cX8_ends 52 = .ok (.getfield 265, 3) := by decide +kernel
theorem dX8_ends_55 : decode cX8_ends 55 = .ok (.invokevirtual 275, 3) := by decide +kernel
theorem dX8_ends_58 : decode cX8_ends 58 = .ok (.goto 13, 3) := by decide +kernel
theorem dX8_ends_61 : decode cX8_ends 61 = .ok (.aload_n 0, 1) := by decide +kernel
theorem dX8_ends_62 : decode cX8_ends 62 = .ok (.getfield 265, 3) := by decide +kernel
theorem dX8_ends_65 : decode cX8_ends 65 = .ok (.getfield 127, 3) := by decide +kernel
theorem dX8_ends_68 : decode cX8_ends 68 = .ok (.getfield 235, 3) := by decide +kernel
theorem dX8_ends_71 : decode cX8_ends 71 = .ok (.ireturn, 1) := by decide +kernel
theorem dX8_book_0 : decode cX8_book 0 = .ok (.iload_n 1, 1) := by decide +kernel
theorem dX8_book_1 : decode cX8_book 1 = .ok (.iconst (-1), 1) := by decide +kernel
theorem dX8_book_2 : decode cX8_book 2 = .ok (.if_icmp .ne 16, 3) := by decide +kernel
theorem dX8_book_5 : decode cX8_book 5 = .ok (.aload_n 0, 1) := by decide +kernel
theorem dX8_book_6 : decode cX8_book 6 = .ok (.getfield 12, 3) := by decide +kernel
theorem dX8_book_9 : decode cX8_book 9 = .ok (.getfield 276, 3) := by decide +kernel
theorem dX8_book_12 : decode cX8_book 12 = .ok (.iconst 0, 1) := by decide +kernel
theorem dX8_book_13 : decode cX8_book 13 = .ok (.putfield 256, 3) := by decide +kernel
theorem dX8_book_16 : decode cX8_book 16 = .ok (.iconst 0, 1) := by decide +kernel
theorem dX8_book_17 : decode cX8_book 17 = .ok (.ireturn, 1) := by decide +kernel
theorem dX8_book_18 : decode cX8_book 18 = .ok (.iload_n 1, 1) := by decide +kernel
theorem dX8_book_19 : decode cX8_book 19 = .ok (.invokestatic 65, 3) := by decide +kernel
theorem dX8_book_22 : decode cX8_book 22 = .ok (.ifCond .ne 5, 3) := by decide +kernel
theorem dX8_book_25 : decode cX8_book 25 = .ok (.iconst (-1), 1) := by decide +kernel
theorem dX8_book_26 : decode cX8_book 26 = .ok (.ireturn, 1) := by decide +kernel
theorem dX8_book_27 : decode cX8_book 27 = .ok (.iload_n 2, 1) := by decide +kernel
theorem dX8_book_28 : decode cX8_book 28 = .ok (.ifCond .lt 10, 3) := by decide +kernel
theorem dX8_book_31 : decode cX8_book 31 = .ok (.iload_n 2, 1) := by decide +kernel
theorem dX8_book_32 : decode cX8_book 32 = .ok (.sipush 200, 3) := by decide +kernel
theorem dX8_book_35 : decode cX8_book 35 = .ok (.if_icmp .le 6, 3) := by decide +kernel
theorem dX8_book_38 : decode cX8_book 38 = .ok (.bipush (-2), 2) := by decide +kernel
theorem dX8_book_40 : decode cX8_book 40 = .ok (.ireturn, 1) := by decide +kernel
theorem dX8_book_41 : decode cX8_book 41 = .ok (.aload_n 0, 1) := by decide +kernel
theorem dX8_book_42 : decode cX8_book 42 = .ok (.getfield 12, 3) := by decide +kernel
theorem dX8_book_45 : decode cX8_book 45 = .ok (.getfield 276, 3) := by decide +kernel
theorem dX8_book_48 : decode cX8_book 48 = .ok (.invokevirtual 261, 3) := by decide +kernel
theorem dX8_book_51 : decode cX8_book 51 = .ok (.ifCond .eq 8, 3) := by decide +kernel
theorem dX8_book_54 : decode cX8_book 54 = .ok (.bipush (-4), 2) := by decide +kernel
theorem dX8_book_56 : decode cX8_book 56 = .ok (.goto 15, 3) := by decide +kernel
theorem dX8_book_59 : decode cX8_book 59 = .ok (.aload_n 0, 1) := by decide +kernel
theorem dX8_book_60 : decode cX8_book 60 = .ok (.getfield 12, 3) := by decide +kernel
theorem dX8_book_63 : decode cX8_book 63 = .ok (.getfield 276, 3) := by decide +kernel
theorem dX8_book_66 : decode cX8_book 66 = .ok (.iload_n 1, 1) := by decide +kernel
theorem dX8_book_67 : decode cX8_book 67 = .ok (.iload_n 2, 1) := by decide +kernel
theorem dX8_book_68 : decode cX8_book 68 = .ok (.invokevirtual 262, 3) := by decide +kernel
theorem dX8_book_71 : decode cX8_book 71 = .ok (.ireturn, 1) := by decide +kernel
theorem dX8_looked_0 : decode cX8_looked 0 = .ok (.aload_n 0, 1) := by decide +kernel
theorem dX8_looked_1 : decode cX8_looked 1 = .ok (.getfield 12, 3) := by decide +kernel
theorem dX8_looked_4 : decode cX8_looked 4 = .ok (.invokevirtual 279, 3) := by decide +kernel
theorem dX8_looked_7 : decode cX8_looked 7 = .ok (.ireturn, 1) := by decide +kernel
theorem dX8_keep_0 : decode cX8_keep 0 = .ok (.iload_n 1, 1) := by decide +kernel
theorem dX8_keep_1 : decode cX8_keep 1 = .ok (.invokestatic 65, 3) := by decide +kernel
theorem dX8_keep_4 : decode cX8_keep 4 = .ok (.ifCond .ne 5, 3) := by decide +kernel
theorem dX8_keep_7 : decode cX8_keep 7 = .ok (.iconst (-1), 1) := by decide +kernel
theorem dX8_keep_8 : decode cX8_keep 8 = .ok (.ireturn, 1) := by decide +kernel
theorem dX8_keep_9 : decode cX8_keep 9 = .ok (.iload_n 2, 1) := by decide +kernel
theorem dX8_keep_10 : decode cX8_keep 10 = .ok (.ifCond .lt 14, 3) := by decide +kernel
theorem dX8_keep_13 : decode cX8_keep 13 = .ok (.iload_n 2, 1) := by decide +kernel
theorem dX8_keep_14 : decode cX8_keep 14 = .ok (.iconst 1, 1) := by decide +kernel
theorem dX8_keep_15 : decode cX8_keep 15 = .ok (.if_icmp .gt 9, 3) := by decide +kernel
theorem dX8_keep_18 : decode cX8_keep 18 = .ok (.iload_n 3, 1) := by decide +kernel
theorem dX8_keep_19 : decode cX8_keep 19 = .ok (.bipush 60, 2) := by decide +kernel
theorem dX8_keep_21 : decode cX8_keep 21 = .ok (.if_icmp .le 6, 3) := by decide +kernel
theorem dX8_keep_24 : decode cX8_keep 24 = .ok (.bipush (-2), 2) := by decide +kernel
theorem dX8_keep_26 : decode cX8_keep 26 = .ok (.ireturn, 1) := by decide +kernel
theorem dX8_keep_27 : decode cX8_keep 27 = .ok (.iload_n 3, 1) := by decide +kernel
theorem dX8_keep_28 : decode cX8_keep 28 = .ok (.ifCond .ge 8, 3) := by decide +kernel
theorem dX8_keep_31 : decode cX8_keep 31 = .ok (.bipush (-14), 2) := by decide +kernel
theorem dX8_keep_33 : decode cX8_keep 33 = .ok (.goto 30, 3) := by decide +kernel
theorem dX8_keep_36 : decode cX8_keep 36 = .ok (.aload_n 0, 1) := by decide +kernel
theorem dX8_keep_37 : decode cX8_keep 37 = .ok (.getfield 28, 3) := by decide +kernel
theorem dX8_keep_40 : decode cX8_keep 40 = .ok (.aload_n 0, 1) := by decide +kernel
theorem dX8_keep_41 : decode cX8_keep 41 = .ok (.getfield 12, 3) := by decide +kernel
theorem dX8_keep_44 : decode cX8_keep 44 = .ok (.getfield 69, 3) := by decide +kernel
theorem dX8_keep_47 : decode cX8_keep 47 = .ok (.iload_n 1, 1) := by decide +kernel
theorem dX8_keep_48 : decode cX8_keep 48 = .ok (.aaload, 1) := by decide +kernel
theorem dX8_keep_49 : decode cX8_keep 49 = .ok (.iload_n 2, 1) := by decide +kernel
theorem dX8_keep_50 : decode cX8_keep 50 = .ok (.iconst 1, 1) := by decide +kernel
theorem dX8_keep_51 : decode cX8_keep 51 = .ok (.if_icmp .ne 7, 3) := by decide +kernel
theorem dX8_keep_54 : decode cX8_keep 54 = .ok (.iconst 1, 1) := by decide +kernel
theorem dX8_keep_55 : decode cX8_keep 55 = .ok (.goto 4, 3) := by decide +kernel
theorem dX8_keep_58 : decode cX8_keep 58 = .ok (.iconst 0, 1) := by decide +kernel
theorem dX8_keep_59 : decode cX8_keep 59 = .ok (.iload_n 3, 1) := by decide +kernel
theorem dX8_keep_60 : decode cX8_keep 60 = .ok (.invokevirtual 282, 3) := by decide +kernel
theorem dX8_keep_63 : decode cX8_keep 63 = .ok (.ireturn, 1) := by decide +kernel
theorem dX8_kept_0 : decode cX8_kept 0 = .ok (.iload_n 1, 1) := by decide +kernel
theorem dX8_kept_1 : decode cX8_kept 1 = .ok (.ifCond .lt 26, 3) := by decide +kernel
theorem dX8_kept_4 : decode cX8_kept 4 = .ok (.iload_n 1, 1) := by decide +kernel
theorem dX8_kept_5 : decode cX8_kept 5 = .ok (.aload_n 0, 1) := by decide +kernel
theorem dX8_kept_6 : decode cX8_kept 6 = .ok (.getfield 28, 3) := by decide +kernel
theorem dX8_kept_9 : decode cX8_kept 9 = .ok (.getfield 286, 3) := by decide +kernel
theorem dX8_kept_12 : decode cX8_kept 12 = .ok (.if_icmp .ge 15, 3) := by decide +kernel
theorem dX8_kept_15 : decode cX8_kept 15 = .ok (.aload_n 0, 1) := by decide +kernel
theorem dX8_kept_16 : decode cX8_kept 16 = .ok (.getfield 28, 3) := by decide +kernel
theorem dX8_kept_19 : decode cX8_kept 19 = .ok (.iload_n 1, 1) := by decide +kernel
theorem dX8_kept_20 : decode cX8_kept 20 = .ok (.iload_n 2, 1) := by decide +kernel
theorem dX8_kept_21 : decode cX8_kept 21 = .ok (.invokevirtual 287, 3) := by decide +kernel
theorem dX8_kept_24 : decode cX8_kept 24 = .ok (.goto 6, 3) := by decide +kernel
theorem dX8_kept_27 : decode cX8_kept 27 = .ok (.ldc2_w 149, 3) := by decide +kernel
theorem dX8_kept_30 : decode cX8_kept 30 = .ok (.lreturn, 1) := by decide +kernel
theorem dX8_judge_0 : decode cX8_judge 0 = .ok (.iload_n 1, 1) := by decide +kernel
theorem dX8_judge_1 : decode cX8_judge 1 = .ok (.invokestatic 65, 3) := by decide +kernel
theorem dX8_judge_4 : decode cX8_judge 4 = .ok (.ifCond .eq 10, 3) := by decide +kernel
theorem dX8_judge_7 : decode cX8_judge 7 = .ok (.iload_n 2, 1) := by decide +kernel
theorem dX8_judge_8 : decode cX8_judge 8 = .ok (.invokestatic 290, 3) := by decide +kernel
theorem dX8_judge_11 : decode cX8_judge 11 = .ok (.ifCond .ne 5, 3) := by decide +kernel
theorem dX8_judge_14 : decode cX8_judge 14 = .ok (.iconst (-1), 1) := by decide +kernel
theorem dX8_judge_15 : decode cX8_judge 15 = .ok (.ireturn, 1) := by decide +kernel
theorem dX8_judge_16 : decode cX8_judge 16 = .ok (.aload_n 0, 1) := by decide +kernel
theorem dX8_judge_17 : decode cX8_judge 17 = .ok (.getfield 34, 3) := by decide +kernel
theorem dX8_judge_20 : decode cX8_judge 20 = .ok (.iload_n 2, 1) := by decide +kernel
theorem dX8_judge_21 : decode cX8_judge 21 = .ok (.aaload, 1) := by decide +kernel
theorem dX8_judge_22 : decode cX8_judge 22 = .ok (.invokevirtual 293, 3) := by decide +kernel
theorem dX8_judge_25 : decode cX8_judge 25 = .ok (.ifCond .ne 19, 3) := by decide +kernel
theorem dX8_judge_28 : decode cX8_judge 28 = .ok (.aload_n 0, 1) := by decide +kernel
theorem dX8_judge_29 : decode cX8_judge 29 = .ok (.getfield 34, 3) := by decide +kernel
theorem dX8_judge_32 : decode cX8_judge 32 = .ok (.iload_n 2, 1) := by decide +kernel
theorem dX8_judge_33 : decode cX8_judge 33 = .ok (.aaload, 1) := by decide +kernel
theorem dX8_judge_34 : decode cX8_judge 34 = .ok (.getfield 296, 3) := by decide +kernel
theorem dX8_judge_37 : decode cX8_judge 37 = .ok (.iconst 1, 1) := by decide +kernel
theorem dX8_judge_38 : decode cX8_judge 38 = .ok (.if_icmp .eq 6, 3) := by decide +kernel
theorem dX8_judge_41 : decode cX8_judge 41 = .ok (.bipush (-12), 2) := by decide +kernel
theorem dX8_judge_43 : decode cX8_judge 43 = .ok (.ireturn, 1) := by decide +kernel
theorem dX8_judge_44 : decode cX8_judge 44 = .ok (.aload_n 0, 1) := by decide +kernel
theorem dX8_judge_45 : decode cX8_judge 45 = .ok (.getfield 34, 3) := by decide +kernel
theorem dX8_judge_48 : decode cX8_judge 48 = .ok (.iload_n 2, 1) := by decide +kernel
theorem dX8_judge_49 : decode cX8_judge 49 = .ok (.aaload, 1) := by decide +kernel
theorem dX8_judge_50 : decode cX8_judge 50 = .ok (.aload_n 0, 1) := by decide +kernel
theorem dX8_judge_51 : decode cX8_judge 51 = .ok (.getfield 12, 3) := by decide +kernel
theorem dX8_judge_54 : decode cX8_judge 54 = .ok (.getfield 69, 3) := by decide +kernel
theorem dX8_judge_57 : decode cX8_judge 57 = .ok (.iload_n 1, 1) := by decide +kernel
theorem dX8_judge_58 : decode cX8_judge 58 = .ok (.aaload, 1) := by decide +kernel
theorem dX8_judge_59 : decode cX8_judge 59 = .ok (.iload_n 3, 1) := by decide +kernel
theorem dX8_judge_60 : decode cX8_judge 60 = .ok (.invokevirtual 299, 3) := by decide +kernel
theorem dX8_judge_63 : decode cX8_judge 63 = .ok (.ireturn, 1) := by decide +kernel
theorem dX8_image_0 : decode cX8_image 0 = .ok (.aload_n 0, 1) := by decide +kernel
theorem dX8_image_1 : decode cX8_image 1 = .ok (.getfield 302, 3) := by decide +kernel
theorem dX8_image_4 : decode cX8_image 4 = .ok (.ifnonnull 14, 3) := by decide +kernel
theorem dX8_image_7 : decode cX8_image 7 = .ok (.aload_n 0, 1) := by decide +kernel
theorem dX8_image_8 : decode cX8_image 8 = .ok (.new 9, 3) := by decide +kernel
theorem dX8_image_11 : decode cX8_image 11 = .ok (.dup, 1) := by decide +kernel
theorem dX8_image_12 : decode cX8_image 12 = .ok (.invokespecial 11, 3) := by decide +kernel
theorem dX8_image_15 : decode cX8_image 15 = .ok (.putfield 302, 3) := by decide +kernel
theorem dX8_image_18 : decode cX8_image 18 = .ok (.aload_n 0, 1) := by decide +kernel
theorem dX8_image_19 : decode cX8_image 19 = .ok (.getfield 302, 3) := by decide +kernel
theorem dX8_image_22 : decode cX8_image 22 = .ok (.aload_n 0, 1) := by decide +kernel
theorem dX8_image_23 : decode cX8_image 23 = .ok (.getfield 12, 3) := by decide +kernel
theorem dX8_image_26 : decode cX8_image 26 = .ok (.invokevirtual 268, 3) := by decide +kernel
theorem dX8_image_29 : decode cX8_image 29 = .ok (.aload_n 0, 1) := by decide +kernel
theorem dX8_image_30 : decode cX8_image 30 = .ok (.getfield 12, 3) := by decide +kernel
theorem dX8_image_33 : decode cX8_image 33 = .ok (.invokevirtual 275, 3) := by decide +kernel
theorem dX8_image_36 : decode cX8_image 36 = .ok (.ireturn, 1) := by decide +kernel
theorem dX8_undo_0 : decode cX8_undo 0 = .ok (.aload_n 0, 1) := by decide +kernel
theorem dX8_undo_1 : decode cX8_undo 1 = .ok (.getfield 302, 3) := by decide +kernel
theorem dX8_undo_4 : decode cX8_undo 4 = .ok (.ifnonnull 6, 3) := by decide +kernel
theorem dX8_undo_7 : decode cX8_undo 7 = .ok (.bipush (-3), 2) := by decide +kernel
theorem dX8_undo_9 : decode cX8_undo 9 = .ok (.ireturn, 1) := by decide +kernel
theorem dX8_undo_10 : decode cX8_undo 10 = .ok (.aload_n 0, 1) := by decide +kernel
theorem dX8_undo_11 : decode cX8_undo 11 = .ok (.getfield 12, 3) := by decide +kernel
theorem dX8_undo_14 : decode cX8_undo 14 = .ok (.aload_n 0, 1) := by decide +kernel
theorem dX8_undo_15 : decode cX8_undo 15 = .ok (.getfield 302, 3) := by decide +kernel
theorem dX8_undo_18 : decode cX8_undo 18 = .ok (.invokevirtual 268, 3) := by decide +kernel
theorem dX8_undo_21 : decode cX8_undo 21 = .ok (.aload_n 0, 1) := by decide +kernel
theorem dX8_undo_22 : decode cX8_undo 22 = .ok (.getfield 12, 3) := by decide +kernel
theorem dX8_undo_25 : decode cX8_undo 25 = .ok (.invokevirtual 275, 3) := by decide +kernel
theorem dX8_undo_28 : decode cX8_undo 28 = .ok (.ireturn, 1) := by decide +kernel
theorem dX8_count_0 : decode cX8_count 0 = .ok (.iload_n 1, 1) := by decide +kernel
theorem dX8_count_1 : decode cX8_count 1 = .ok (.tableswitch 84 0 4 #[35, 43, 54, 65, 76], 35) := by decide +kernel
theorem dX8_count_36 : decode cX8_count 36 = .ok (.aload_n 0, 1) := by decide +kernel
theorem dX8_count_37 : decode cX8_count 37 = .ok (.getfield 12, 3) := by decide +kernel
theorem dX8_count_40 : decode cX8_count 40 = .ok (.invokevirtual 275, 3) := by decide +kernel
theorem dX8_count_43 : decode cX8_count 43 = .ok (.ireturn, 1) := by decide +kernel
theorem dX8_count_44 : decode cX8_count 44 = .ok (.aload_n 0, 1) := by decide +kernel
theorem dX8_count_45 : decode cX8_count 45 = .ok (.getfield 12, 3) := by decide +kernel
theorem dX8_count_48 : decode cX8_count 48 = .ok (.getfield 127, 3) := by decide +kernel
theorem dX8_count_51 : decode cX8_count 51 = .ok (.invokevirtual 305, 3) := by decide +kernel
theorem dX8_count_54 : decode cX8_count 54 = .ok (.ireturn, 1) := by decide +kernel
theorem dX8_count_55 : decode cX8_count 55 = .ok (.aload_n 0, 1) := by decide +kernel
theorem dX8_count_56 : decode cX8_count 56 = .ok (.getfield 12, 3) := by decide +kernel
theorem dX8_count_59 : decode cX8_count 59 = .ok (.getfield 252, 3) := by decide +kernel
theorem dX8_count_62 : decode cX8_count 62 = .ok (.getfield 256, 3) := by decide +kernel
theorem dX8_count_65 : decode cX8_count 65 = .ok (.ireturn, 1) := by decide +kernel
theorem dX8_count_66 : decode cX8_count 66 = .ok (.aload_n 0, 1) := by decide +kernel
theorem dX8_count_67 : decode cX8_count 67 = .ok (.getfield 12, 3) := by decide +kernel
theorem dX8_count_70 : decode cX8_count 70 = .ok (.getfield 276, 3) := by decide +kernel
theorem dX8_count_73 : decode cX8_count 73 = .ok (.getfield 256, 3) := by decide +kernel
theorem dX8_count_76 : decode cX8_count 76 = .ok (.ireturn, 1) := by decide +kernel
theorem dX8_count_77 : decode cX8_count 77 = .ok (.aload_n 0, 1) := by decide +kernel
theorem dX8_count_78 : decode cX8_count 78 = .ok (.getfield 21, 3) := by decide +kernel
theorem dX8_count_81 : decode cX8_count 81 = .ok (.getfield 102, 3) := by decide +kernel
theorem dX8_count_84 : decode cX8_count 84 = .ok (.ireturn, 1) := by decide +kernel
theorem dX8_count_85 : decode cX8_count 85 = .ok (.bipush (-2), 2) := by decide +kernel
theorem dX8_count_87 : decode cX8_count 87 = .ok (.ireturn, 1) := by decide +kernel
theorem dX8_tape_0 : decode cX8_tape 0 = .ok (.iload_n 1, 1) := by decide +kernel
theorem dX8_tape_1 : decode cX8_tape 1 = .ok (.invokestatic 290, 3) := by decide +kernel
theorem dX8_tape_4 : decode cX8_tape 4 = .ok (.ifCond .ne 5, 3) := by decide +kernel
theorem dX8_tape_7 : decode cX8_tape 7 = .ok (.iconst (-1), 1) := by decide +kernel
theorem dX8_tape_8 : decode cX8_tape 8 = .ok (.ireturn, 1) := by decide +kernel
theorem dX8_tape_9 : decode cX8_tape 9 = .ok (.iload_n 2, 1) := by decide +kernel
theorem dX8_tape_10 : decode cX8_tape 10 = .ok (.iconst (-1), 1) := by decide +kernel
theorem dX8_tape_11 : decode cX8_tape 11 = .ok (.if_icmp .ne 14, 3) := by decide +kernel
theorem dX8_tape_14 : decode cX8_tape 14 = .ok (.aload_n 0, 1) := by decide +kernel
theorem dX8_tape_15 : decode cX8_tape 15 = .ok (.getfield 34, 3) := by decide +kernel
theorem dX8_tape_18 : decode cX8_tape 18 = .ok (.iload_n 1, 1) := by decide +kernel
theorem dX8_tape_19 : decode cX8_tape 19 = .ok (.aaload, 1) := by decide +kernel
theorem dX8_tape_20 : decode cX8_tape 20 = .ok (.invokevirtual 308, 3) := by decide +kernel
theorem dX8_tape_23 : decode cX8_tape 23 = .ok (.iconst 1, 1) := by decide +kernel
theorem dX8_tape_24 : decode cX8_tape 24 = .ok (.ireturn, 1) := by decide +kernel
theorem dX8_tape_25 : decode cX8_tape 25 = .ok (.iload_n 2, 1) := by decide +kernel
theorem dX8_tape_26 : decode cX8_tape 26 = .ok (.ifCond .lt 14, 3) := by decide +kernel
theorem dX8_tape_29 : decode cX8_tape 29 = .ok (.iload_n 2, 1) := by decide +kernel
theorem dX8_tape_30 : decode cX8_tape 30 = .ok (.iconst 4, 1) := by decide +kernel
theorem dX8_tape_31 : decode cX8_tape 31 = .ok (.if_icmp .gt 9, 3) := by decide +kernel
theorem dX8_tape_34 : decode cX8_tape 34 = .ok (.iload_n 3, 1) := by decide +kernel
theorem dX8_tape_35 : decode cX8_tape 35 = .ok (.bipush 60, 2) := by decide +kernel
theorem dX8_tape_37 : decode cX8_tape 37 = .ok (.if_icmp .le 6, 3) := by decide +kernel
theorem dX8_tape_40 : decode cX8_tape 40 = .ok (.bipush (-2), 2) := by decide +kernel
theorem dX8_tape_42 : decode cX8_tape 42 = .ok (.ireturn, 1) := by decide +kernel
theorem dX8_tape_43 : decode cX8_tape 43 = .ok (.iload_n 3, 1) := by decide +kernel
theorem dX8_tape_44 : decode cX8_tape 44 = .ok (.ifCond .ge 6, 3) := by decide +kernel
theorem dX8_tape_47 : decode cX8_tape 47 = .ok (.bipush (-14), 2) := by decide +kernel
theorem dX8_tape_49 : decode cX8_tape 49 = .ok (.ireturn, 1) := by decide +kernel
theorem dX8_tape_50 : decode cX8_tape 50 = .ok (.aload_n 0, 1) := by decide +kernel
theorem dX8_tape_51 : decode cX8_tape 51 = .ok (.getfield 34, 3) := by decide +kernel
theorem dX8_tape_54 : decode cX8_tape 54 = .ok (.iload_n 1, 1) := by decide +kernel
theorem dX8_tape_55 : decode cX8_tape 55 = .ok (.aaload, 1) := by decide +kernel
theorem dX8_tape_56 : decode cX8_tape 56 = .ok (.iload_n 2, 1) := by decide +kernel
theorem dX8_tape_57 : decode cX8_tape 57 = .ok (.iload_n 3, 1) := by decide +kernel
theorem dX8_tape_58 : decode cX8_tape 58 = .ok (.invokevirtual 311, 3) := by decide +kernel
theorem dX8_tape_61 : decode cX8_tape 61 = .ok (.iconst 1, 1) := by decide +kernel
theorem dX8_tape_62 : decode cX8_tape 62 = .ok (.ireturn, 1) := by decide +kernel
theorem dX8_item_0 : decode cX8_item 0 = .ok (.iload_n 1, 1) := by decide +kernel
theorem dX8_item_1 : decode cX8_item 1 = .ok (.invokestatic 290, 3) := by decide +kernel
theorem dX8_item_4 : decode cX8_item 4 = .ok (.ifCond .ne 5, 3) := by decide +kernel
theorem dX8_item_7 : decode cX8_item 7 = .ok (.iconst (-1), 1) := by decide +kernel
theorem dX8_item_8 : decode cX8_item 8 = .ok (.ireturn, 1) := by decide +kernel
theorem dX8_item_9 : decode cX8_item 9 = .ok (.aload_n 0, 1) := by decide +kernel
theorem dX8_item_10 : decode cX8_item 10 = .ok (.getfield 34, 3) := by decide +kernel
theorem dX8_item_13 : decode cX8_item 13 = .ok (.iload_n 1, 1) := by decide +kernel
theorem dX8_item_14 : decode cX8_item 14 = .ok (.aaload, 1) := by decide +kernel
theorem dX8_item_15 : decode cX8_item 15 = .ok (.invokevirtual 293, 3) := by decide +kernel
theorem dX8_item_18 : decode cX8_item 18 = .ok (.ifCond .eq 6, 3) := by decide +kernel
theorem dX8_item_21 : decode cX8_item 21 = .ok (.bipush (-11), 2) := by decide +kernel
theorem dX8_item_23 : decode cX8_item 23 = .ok (.ireturn, 1) := by decide +kernel
theorem dX8_item_24 : decode cX8_item 24 = .ok (.aload_n 0, 1) := by decide +kernel
theorem dX8_item_25 : decode cX8_item 25 = .ok (.getfield 34, 3) := by decide +kernel
theorem dX8_item_28 : decode cX8_item 28 = .ok (.iload_n 1, 1) := by decide +kernel
theorem dX8_item_29 : decode cX8_item 29 = .ok (.aaload, 1) := by decide +kernel
theorem dX8_item_30 : decode cX8_item 30 = .ok (.iload_n 2, 1) := by decide +kernel
theorem dX8_item_31 : decode cX8_item 31 = .ok (.invokevirtual 315, 3) := by decide +kernel
theorem dX8_item_34 : decode cX8_item 34 = .ok (.ifCond .ne 6, 3) := by decide +kernel
theorem dX8_item_37 : decode cX8_item 37 = .ok (.bipush (-13), 2) := by decide +kernel
theorem dX8_item_39 : decode cX8_item 39 = .ok (.ireturn, 1) := by decide +kernel
theorem dX8_item_40 : decode cX8_item 40 = .ok (.aload_n 0, 1) := by decide +kernel
theorem dX8_item_41 : decode cX8_item 41 = .ok (.getfield 34, 3) := by decide +kernel
theorem dX8_item_44 : decode cX8_item 44 = .ok (.iload_n 1, 1) := by decide +kernel
theorem dX8_item_45 : decode cX8_item 45 = .ok (.aaload, 1) := by decide +kernel
theorem dX8_item_46 : decode cX8_item 46 = .ok (.getfield 318, 3) := by decide +kernel
theorem dX8_item_49 : decode cX8_item 49 = .ok (.iload_n 2, 1) := by decide +kernel
theorem dX8_item_50 : decode cX8_item 50 = .ok (.aload_n 0, 1) := by decide +kernel
theorem dX8_item_51 : decode cX8_item 51 = .ok (.getfield 34, 3) := by decide +kernel
theorem dX8_item_54 : decode cX8_item 54 = .ok (.iload_n 1, 1) := by decide +kernel
theorem dX8_item_55 : decode cX8_item 55 = .ok (.aaload, 1) := by decide +kernel
theorem dX8_item_56 : decode cX8_item 56 = .ok (.lload_n 3, 1) := by decide +kernel
theorem dX8_item_57 : decode cX8_item 57 = .ok (.invokevirtual 322, 3) := by decide +kernel
theorem dX8_item_60 : decode cX8_item 60 = .ok (.lastore, 1) := by decide +kernel
theorem dX8_item_61 : decode cX8_item 61 = .ok (.iconst 1, 1) := by decide +kernel
theorem dX8_item_62 : decode cX8_item 62 = .ok (.ireturn, 1) := by decide +kernel
theorem dX8_peek_0 : decode cX8_peek 0 = .ok (.iload_n 1, 1) := by decide +kernel
theorem dX8_peek_1 : decode cX8_peek 1 = .ok (.invokestatic 290, 3) := by decide +kernel
theorem dX8_peek_4 : decode cX8_peek 4 = .ok (.ifCond .eq 30, 3) := by decide +kernel
theorem dX8_peek_7 : decode cX8_peek 7 = .ok (.aload_n 0, 1) := by decide +kernel
theorem dX8_peek_8 : decode cX8_peek 8 = .ok (.getfield 34, 3) := by decide +kernel
theorem dX8_peek_11 : decode cX8_peek 11 = .ok (.iload_n 1, 1) := by decide +kernel
theorem dX8_peek_12 : decode cX8_peek 12 = .ok (.aaload, 1) := by decide +kernel
theorem dX8_peek_13 : decode cX8_peek 13 = .ok (.iload_n 2, 1) := by decide +kernel
theorem dX8_peek_14 : decode cX8_peek 14 = .ok (.invokevirtual 315, 3) := by decide +kernel
theorem dX8_peek_17 : decode cX8_peek 17 = .ok (.ifCond .eq 17, 3) := by decide +kernel
theorem dX8_peek_20 : decode cX8_peek 20 = .ok (.aload_n 0, 1) := by decide +kernel
theorem dX8_peek_21 : decode cX8_peek 21 = .ok (.getfield 34, 3) := by decide +kernel
theorem dX8_peek_24 : decode cX8_peek 24 = .ok (.iload_n 1, 1) := by decide +kernel
theorem dX8_peek_25 : decode cX8_peek 25 = .ok (.aaload, 1) := by decide +kernel
theorem dX8_peek_26 : decode cX8_peek 26 = .ok (.getfield 318, 3) := by decide +kernel
theorem dX8_peek_29 : decode cX8_peek 29 = .ok (.iload_n 2, 1) := by decide +kernel
theorem dX8_peek_30 : decode cX8_peek 30 = .ok (.laload, 1) := by decide +kernel
theorem dX8_peek_31 : decode cX8_peek 31 = .ok (.goto 6, 3) := by decide +kernel
theorem dX8_peek_34 : decode cX8_peek 34 = .ok (.ldc2_w 149, 3) := by decide +kernel
theorem dX8_peek_37 : decode cX8_peek 37 = .ok (.lreturn, 1) := by decide +kernel
theorem dX8_shift_0 : decode cX8_shift 0 = .ok (.iload_n 1, 1) := by decide +kernel
theorem dX8_shift_1 : decode cX8_shift 1 = .ok (.invokestatic 290, 3) := by decide +kernel
theorem dX8_shift_4 : decode cX8_shift 4 = .ok (.ifCond .eq 10, 3) := by decide +kernel
theorem dX8_shift_7 : decode cX8_shift 7 = .ok (.iload_n 3, 1) := by decide +kernel
theorem dX8_shift_8 : decode cX8_shift 8 = .ok (.invokestatic 290, 3) := by decide +kernel
theorem dX8_shift_11 : decode cX8_shift 11 = .ok (.ifCond .ne 5, 3) := by decide +kernel
theorem dX8_shift_14 : decode cX8_shift 14 = .ok (.iconst (-1), 1) := by decide +kernel
theorem dX8_shift_15 : decode cX8_shift 15 = .ok (.ireturn, 1) := by decide +kernel
theorem dX8_shift_16 : decode cX8_shift 16 = .ok (.aload_n 0, 1) := by decide +kernel
theorem dX8_shift_17 : decode cX8_shift 17 = .ok (.getfield 34, 3) := by decide +kernel
theorem dX8_shift_20 : decode cX8_shift 20 = .ok (.iload_n 1, 1) := by decide +kernel
theorem dX8_shift_21 : decode cX8_shift 21 = .ok (.aaload, 1) := by decide +kernel
theorem dX8_shift_22 : decode cX8_shift 22 = .ok (.astore 6, 2) := by decide +kernel
theorem dX8_shift_24 : decode cX8_shift 24 = .ok (.aload_n 0, 1) := by decide +kernel
theorem dX8_shift_25 : decode cX8_shift 25 = .ok (.getfield 34, 3) := by decide +kernel
theorem dX8_shift_28 : decode cX8_shift 28 = .ok (.iload_n 3, 1) := by decide +kernel
theorem dX8_shift_29 : decode cX8_shift 29 = .ok (.aaload, 1) := by decide +kernel
theorem dX8_shift_30 : decode cX8_shift 30 = .ok (.astore 7, 2) := by decide +kernel
theorem dX8_shift_32 : decode cX8_shift 32 = .ok (.aload 6, 2) := by decide +kernel
theorem dX8_shift_34 : decode cX8_shift 34 = .ok (.invokevirtual 293, 3) := by decide +kernel
theorem dX8_shift_37 : decode cX8_shift 37 = .ok (.ifCond .ne 11, 3) := by decide +kernel
theorem dX8_shift_40 : decode cX8_shift 40 = .ok (.aload 7, 2) := by decide +kernel
theorem dX8_shift_42 : decode cX8_shift 42 = .ok (.invokevirtual 293, 3) := by decide +kernel
theorem dX8_shift_45 : decode cX8_shift 45 = .ok (.ifCond .eq 6, 3) := by decide +kernel
theorem dX8_shift_48 : decode cX8_shift 48 = .ok (.bipush (-11), 2) := by decide +kernel
theorem dX8_shift_50 : decode cX8_shift 50 = .ok (.ireturn, 1) := by decide +kernel
theorem dX8_shift_51 : decode cX8_shift 51 = .ok (.aload 6, 2) := by decide +kernel
theorem dX8_shift_53 : decode cX8_shift 53 = .ok (.getfield 296, 3) := by decide +kernel
theorem dX8_shift_56 : decode cX8_shift 56 = .ok (.aload 7, 2) := by decide +kernel
theorem dX8_shift_58 : decode cX8_shift 58 = .ok (.getfield 296, 3) := by decide +kernel
theorem dX8_shift_61 : decode cX8_shift 61 = .ok (.if_icmp .eq 6, 3) := by decide +kernel
theorem dX8_shift_64 : decode cX8_shift 64 = .ok (.bipush (-12), 2) := by decide +kernel
theorem dX8_shift_66 : decode cX8_shift 66 = .ok (.ireturn, 1) := by decide +kernel
theorem dX8_shift_67 : decode cX8_shift 67 = .ok (.aload 6, 2) := by decide +kernel
theorem dX8_shift_69 : decode cX8_shift 69 = .ok (.iload_n 2, 1) := by decide +kernel
theorem dX8_shift_70 : decode cX8_shift 70 = .ok (.iload 5, 2) := by decide +kernel
theorem dX8_shift_72 : decode cX8_shift 72 = .ok (.invokevirtual 326, 3) := by decide +kernel
theorem dX8_shift_75 : decode cX8_shift 75 = .ok (.ifCond .eq 15, 3) := by decide +kernel
theorem dX8_shift_78 : decode cX8_shift 78 = .ok (.aload 7, 2) := by decide +kernel
theorem dX8_shift_80 : decode cX8_shift 80 = .ok (.iload 4, 2) := by decide +kernel
theorem dX8_shift_82 : decode cX8_shift 82 = .ok (.iload 5, 2) := by decide +kernel
theorem dX8_shift_84 : decode cX8_shift 84 = .ok (.invokevirtual 326, 3) := by decide +kernel
theorem dX8_shift_87 : decode cX8_shift 87 = .ok (.ifCond .ne 6, 3) := by decide +kernel
theorem dX8_shift_90 : decode cX8_shift 90 = .ok (.bipush (-13), 2) := by decide +kernel
theorem dX8_shift_92 : decode cX8_shift 92 = .ok (.ireturn, 1) := by decide +kernel
theorem dX8_shift_93 : decode cX8_shift 93 = .ok (.aload 6, 2) := by decide +kernel
theorem dX8_shift_95 : decode cX8_shift 95 = .ok (.getfield 318, 3) := by decide +kernel
theorem dX8_shift_98 : decode cX8_shift 98 = .ok (.iload_n 2, 1) := by decide +kernel
theorem dX8_shift_99 : decode cX8_shift 99 = .ok (.aload 7, 2) := by decide +kernel
theorem dX8_shift_101 : decode cX8_shift 101 = .ok (.getfield 318, 3) := by decide +kernel
theorem dX8_shift_104 : decode cX8_shift 104 = .ok (.iload 4, 2) := by decide +kernel
theorem dX8_shift_106 : decode cX8_shift 106 = .ok (.iload 5, 2) := by decide +kernel
theorem dX8_shift_108 : decode cX8_shift 108 = .ok (.invokestatic 330, 3) := by decide +kernel
theorem dX8_shift_111 : decode cX8_shift 111 = .ok (.iload 5, 2) := by decide +kernel
theorem dX8_shift_113 : decode cX8_shift 113 = .ok (.ireturn, 1) := by decide +kernel
theorem dX8_isLog_0 : decode cX8_isLog 0 = .ok (.iload_n 0, 1) := by decide +kernel
theorem dX8_isLog_1 : decode cX8_isLog 1 = .ok (.ifCond .lt 12, 3) := by decide +kernel
theorem dX8_isLog_4 : decode cX8_isLog 4 = .ok (.iload_n 0, 1) := by decide +kernel
theorem dX8_isLog_5 : decode cX8_isLog 5 = .ok (.iconst 4, 1) := by decide +kernel
theorem dX8_isLog_6 : decode cX8_isLog 6 = .ok (.if_icmp .ge 7, 3) := by decide +kernel
theorem dX8_isLog_9 : decode cX8_isLog 9 = .ok (.iconst 1, 1) := by decide +kernel
theorem dX8_isLog_10 : decode cX8_isLog 10 = .ok (.goto 4, 3) := by decide +kernel
theorem dX8_isLog_13 : decode cX8_isLog 13 = .ok (.iconst 0, 1) := by decide +kernel
theorem dX8_isLog_14 : decode cX8_isLog 14 = .ok (.ireturn, 1) := by decide +kernel
theorem dX8_isKey_0 : decode cX8_isKey 0 = .ok (.iload_n 0, 1) := by decide +kernel
theorem dX8_isKey_1 : decode cX8_isKey 1 = .ok (.ifCond .lt 13, 3) := by decide +kernel
theorem dX8_isKey_4 : decode cX8_isKey 4 = .ok (.iload_n 0, 1) := by decide +kernel
theorem dX8_isKey_5 : decode cX8_isKey 5 = .ok (.bipush 26, 2) := by decide +kernel
theorem dX8_isKey_7 : decode cX8_isKey 7 = .ok (.if_icmp .ge 7, 3) := by decide +kernel
theorem dX8_isKey_10 : decode cX8_isKey 10 = .ok (.iconst 1, 1) := by decide +kernel
theorem dX8_isKey_11 : decode cX8_isKey 11 = .ok (.goto 4, 3) := by decide +kernel
theorem dX8_isKey_14 : decode cX8_isKey 14 = .ok (.iconst 0, 1) := by decide +kernel
theorem dX8_isKey_15 : decode cX8_isKey 15 = .ok (.ireturn, 1) := by decide +kernel
theorem dX8_isMember_0 : decode cX8_isMember 0 = .ok (.iload_n 0, 1) := by decide +kernel
theorem dX8_isMember_1 : decode cX8_isMember 1 = .ok (.ifCond .lt 12, 3) := by decide +kernel
theorem dX8_isMember_4 : decode cX8_isMember 4 = .ok (.iload_n 0, 1) := by decide +kernel
theorem dX8_isMember_5 : decode cX8_isMember 5 = .ok (.iconst 4, 1) := by decide +kernel
theorem dX8_isMember_6 : decode cX8_isMember 6 = .ok (.if_icmp .ge 7, 3) := by decide +kernel
theorem dX8_isMember_9 : decode cX8_isMember 9 = .ok (.iconst 1, 1) := by decide +kernel
theorem dX8_isMember_10 : decode cX8_isMember 10 = .ok (.goto 4, 3) := by decide +kernel
theorem dX8_isMember_13 : decode cX8_isMember 13 = .ok (.iconst 0, 1) := by decide +kernel
theorem dX8_isMember_14 : decode cX8_isMember 14 = .ok (.ireturn, 1) := by decide +kernel
theorem dX8_isTape_0 : decode cX8_isTape 0 = .ok (.iload_n 0, 1) := by decide +kernel
theorem dX8_isTape_1 : decode cX8_isTape 1 = .ok (.ifCond .lt 13, 3) := by decide +kernel
theorem dX8_isTape_4 : decode cX8_isTape 4 = .ok (.iload_n 0, 1) := by decide +kernel
theorem dX8_isTape_5 : decode cX8_isTape 5 = .ok (.bipush 6, 2) := by decide +kernel
theorem dX8_isTape_7 : decode cX8_isTape 7 = .ok (.if_icmp .ge 7, 3) := by decide +kernel
theorem dX8_isTape_10 : decode cX8_isTape 10 = .ok (.iconst 1, 1) := by decide +kernel
theorem dX8_isTape_11 : decode cX8_isTape 11 = .ok (.goto 4, 3) := by decide +kernel
theorem dX8_isTape_14 : decode cX8_isTape 14 = .ok (.iconst 0, 1) := by decide +kernel
theorem dX8_isTape_15 : decode cX8_isTape 15 = .ok (.ireturn, 1) := by decide +kernel
theorem dX8_recordComes_0 : decode cX8_recordComes 0 = .ok (.iload_n 1, 1) := by decide +kernel
theorem dX8_recordComes_1 : decode cX8_recordComes 1 = .ok (.invokestatic 65, 3) := by decide +kernel
theorem dX8_recordComes_4 : decode cX8_recordComes 4 = .ok (.ifCond .eq 10, 3) := by decide +kernel
theorem dX8_recordComes_7 : decode cX8_recordComes 7 = .ok (.iload_n 2, 1) := by decide +kernel
theorem dX8_recordComes_8 : decode cX8_recordComes 8 = .ok (.invokestatic 181, 3) := by decide +kernel
theorem dX8_recordComes_11 : decode cX8_recordComes 11 = .ok (.ifCond .ne 5, 3) := by decide +kernel
theorem dX8_recordComes_14 : decode cX8_recordComes 14 = .ok (.iconst (-1), 1) := by decide +kernel
theorem dX8_recordComes_15 : decode cX8_recordComes 15 = .ok (.ireturn, 1) := by decide +kernel
theorem dX8_recordComes_16 : decode cX8_recordComes 16 = .ok (.iload 5, 2) := by decide +kernel
theorem dX8_recordComes_18 : decode cX8_recordComes 18 = .ok (.iconst 1, 1) := by decide +kernel
theorem dX8_recordComes_19 : decode cX8_recordComes 19 = .ok (.if_icmp .lt 10, 3) := by decide +kernel
theorem dX8_recordComes_22 : decode cX8_recordComes 22 = .ok (.iload 5, 2) := by decide +kernel
theorem dX8_recordComes_24 : decode cX8_recordComes 24 = .ok (.bipush 9, 2) := by decide +kernel
theorem dX8_recordComes_26 : decode cX8_recordComes 26 = .ok (.if_icmp .le 6, 3) := by decide +kernel
theorem dX8_recordComes_29 : decode cX8_recordComes 29 = .ok (.bipush (-2), 2) := by decide +kernel
theorem dX8_recordComes_31 : decode cX8_recordComes 31 = .ok (.ireturn, 1) := by decide +kernel
theorem dX8_recordComes_32 : decode cX8_recordComes 32 = .ok (.aload_n 0, 1) := by decide +kernel
theorem dX8_recordComes_33 : decode cX8_recordComes 33 = .ok (.getfield 12, 3) := by decide +kernel
theorem dX8_recordComes_36 : decode cX8_recordComes 36 = .ok (.getfield 69, 3) := by decide +kernel
theorem dX8_recordComes_39 : decode cX8_recordComes 39 = .ok (.iload_n 1, 1) := by decide +kernel
theorem dX8_recordComes_40 : decode cX8_recordComes 40 = .ok (.aaload, 1) := by decide +kernel
theorem dX8_recordComes_41 : decode cX8_recordComes 41 = .ok (.astore 6, 2) := by decide +kernel
theorem dX8_recordComes_43 : decode cX8_recordComes 43 = .ok (.aload 6, 2) := by decide +kernel
theorem dX8_recordComes_45 : decode cX8_recordComes 45 = .ok (.invokevirtual 336, 3) := by decide +kernel
theorem dX8_recordComes_48 : decode cX8_recordComes 48 = .ok (.ifCond .eq 8, 3) := by decide +kernel
theorem dX8_recordComes_51 : decode cX8_recordComes 51 = .ok (.bipush (-4), 2) := by decide +kernel
theorem dX8_recordComes_53 : decode cX8_recordComes 53 = .ok (.goto 21, 3) := by decide +kernel
theorem dX8_recordComes_56 : decode cX8_recordComes 56 = .ok (.aload 6, 2) := by decide +kernel
theorem dX8_recordComes_58 : decode cX8_recordComes 58 = .ok (.iload_n 2, 1) := by decide +kernel
theorem dX8_recordComes_59 : decode cX8_recordComes 59 = .ok (.iload_n 3, 1) := by decide +kernel
theorem dX8_recordComes_60 : decode cX8_recordComes 60 = .ok (.iload 4, 2) := by decide +kernel
theorem dX8_recordComes_62 : decode cX8_recordComes 62 = .ok (.iload 5, 2) := by decide +kernel
theorem dX8_recordComes_64 : decode cX8_recordComes 64 = .ok (.aload_n 0, 1) := by decide +kernel
theorem dX8_recordComes_65 : decode cX8_recordComes 65 = .ok (.getfield 12, 3) := by decide +kernel
theorem dX8_recordComes_68 : decode cX8_recordComes 68 = .ok (.getfield 51, 3) := by decide +kernel
theorem dX8_recordComes_71 : decode cX8_recordComes 71 = .ok (.invokevirtual 337, 3) := by decide +kernel
theorem dX8_recordComes_74 : decode cX8_recordComes 74 = .ok (.ireturn, 1) := by decide +kernel
theorem dX8_setGrace_0 : decode cX8_setGrace 0 = .ok (.iload_n 1, 1) := by decide +kernel
theorem dX8_setGrace_1 : decode cX8_setGrace 1 = .ok (.ifCond .lt 9, 3) := by decide +kernel
theorem dX8_setGrace_4 : decode cX8_setGrace 4 = .ok (.iload_n 1, 1) := by decide +kernel
theorem dX8_setGrace_5 : decode cX8_setGrace 5 = .ok (.bipush 99, 2) := by decide +kernel
theorem dX8_setGrace_7 : decode cX8_setGrace 7 = .ok (.if_icmp .le 6, 3) := by decide +kernel
theorem dX8_setGrace_10 : decode cX8_setGrace 10 = .ok (.bipush (-2), 2) := by decide +kernel
theorem dX8_setGrace_12 : decode cX8_setGrace 12 = .ok (.ireturn, 1) := by decide +kernel
theorem dX8_setGrace_13 : decode cX8_setGrace 13 = .ok (.aload_n 0, 1) := by decide +kernel
theorem dX8_setGrace_14 : decode cX8_setGrace 14 = .ok (.getfield 12, 3) := by decide +kernel
theorem dX8_setGrace_17 : decode cX8_setGrace 17 = .ok (.getfield 73, 3) := by decide +kernel
theorem dX8_setGrace_20 : decode cX8_setGrace 20 = .ok (.istore_n 2, 1) := by decide +kernel
theorem dX8_setGrace_21 : decode cX8_setGrace 21 = .ok (.aload_n 0, 1) := by decide +kernel
theorem dX8_setGrace_22 : decode cX8_setGrace 22 = .ok (.getfield 12, 3) := by decide +kernel
theorem dX8_setGrace_25 : decode cX8_setGrace 25 = .ok (.iload_n 1, 1) := by decide +kernel
theorem dX8_setGrace_26 : decode cX8_setGrace 26 = .ok (.putfield 73, 3) := by decide +kernel
theorem dX8_setGrace_29 : decode cX8_setGrace 29 = .ok (.iload_n 2, 1) := by decide +kernel
theorem dX8_setGrace_30 : decode cX8_setGrace 30 = .ok (.ireturn, 1) := by decide +kernel
theorem dX8_setKeep_0 : decode cX8_setKeep 0 = .ok (.iload_n 1, 1) := by decide +kernel
theorem dX8_setKeep_1 : decode cX8_setKeep 1 = .ok (.ifCond .lt 10, 3) := by decide +kernel
theorem dX8_setKeep_4 : decode cX8_setKeep 4 = .ok (.iload_n 1, 1) := by decide +kernel
theorem dX8_setKeep_5 : decode cX8_setKeep 5 = .ok (.sipush 999, 3) := by decide +kernel
theorem dX8_setKeep_8 : decode cX8_setKeep 8 = .ok (.if_icmp .le 6, 3) := by decide +kernel
theorem dX8_setKeep_11 : decode cX8_setKeep 11 = .ok (.bipush (-2), 2) := by decide +kernel
theorem dX8_setKeep_13 : decode cX8_setKeep 13 = .ok (.ireturn, 1) := by decide +kernel
theorem dX8_setKeep_14 : decode cX8_setKeep 14 = .ok (.aload_n 0, 1) := by decide +kernel
theorem dX8_setKeep_15 : decode cX8_setKeep 15 = .ok (.getfield 12, 3) := by decide +kernel
theorem dX8_setKeep_18 : decode cX8_setKeep 18 = .ok (.getfield 79, 3) := by decide +kernel
theorem dX8_setKeep_21 : decode cX8_setKeep 21 = .ok (.istore_n 2, 1) := by decide +kernel
theorem dX8_setKeep_22 : decode cX8_setKeep 22 = .ok (.aload_n 0, 1) := by decide +kernel
theorem dX8_setKeep_23 : decode cX8_setKeep 23 = .ok (.getfield 12, 3) := by decide +kernel
theorem dX8_setKeep_26 : decode cX8_setKeep 26 = .ok (.iload_n 1, 1) := by decide +kernel
theorem dX8_setKeep_27 : decode cX8_setKeep 27 = .ok (.putfield 79, 3) := by decide +kernel
theorem dX8_setKeep_30 : decode cX8_setKeep 30 = .ok (.iload_n 2, 1) := by decide +kernel
theorem dX8_setKeep_31 : decode cX8_setKeep 31 = .ok (.ireturn, 1) := by decide +kernel
theorem dX8_setAge_0 : decode cX8_setAge 0 = .ok (.iload_n 1, 1) := by decide +kernel
theorem dX8_setAge_1 : decode cX8_setAge 1 = .ok (.ifCond .lt 10, 3) := by decide +kernel
theorem dX8_setAge_4 : decode cX8_setAge 4 = .ok (.iload_n 1, 1) := by decide +kernel
theorem dX8_setAge_5 : decode cX8_setAge 5 = .ok (.sipush 999, 3) := by decide +kernel
theorem dX8_setAge_8 : decode cX8_setAge 8 = .ok (.if_icmp .le 6, 3) := by decide +kernel
theorem dX8_setAge_11 : decode cX8_setAge 11 = .ok (.bipush (-2), 2) := by decide +kernel
theorem dX8_setAge_13 : decode cX8_setAge 13 = .ok (.ireturn, 1) := by decide +kernel
theorem dX8_setAge_14 : decode cX8_setAge 14 = .ok (.aload_n 0, 1) := by decide +kernel
theorem dX8_setAge_15 : decode cX8_setAge 15 = .ok (.getfield 12, 3) := by decide +kernel
theorem dX8_setAge_18 : decode cX8_setAge 18 = .ok (.getfield 82, 3) := by decide +kernel
theorem dX8_setAge_21 : decode cX8_setAge 21 = .ok (.istore_n 2, 1) := by decide +kernel
theorem dX8_setAge_22 : decode cX8_setAge 22 = .ok (.aload_n 0, 1) := by decide +kernel
theorem dX8_setAge_23 : decode cX8_setAge 23 = .ok (.getfield 12, 3) := by decide +kernel
theorem dX8_setAge_26 : decode cX8_setAge 26 = .ok (.iload_n 1, 1) := by decide +kernel
theorem dX8_setAge_27 : decode cX8_setAge 27 = .ok (.putfield 82, 3) := by decide +kernel
theorem dX8_setAge_30 : decode cX8_setAge 30 = .ok (.iload_n 2, 1) := by decide +kernel
theorem dX8_setAge_31 : decode cX8_setAge 31 = .ok (.ireturn, 1) := by decide +kernel
theorem dX8_clausesCome_0 : decode cX8_clausesCome 0 = .ok (.iconst 0, 1) := by decide +kernel
theorem dX8_clausesCome_1 : decode cX8_clausesCome 1 = .ok (.istore_n 1, 1) := by decide +kernel
theorem dX8_clausesCome_2 : decode cX8_clausesCome 2 = .ok (.iconst 0, 1) := by decide +kernel
theorem dX8_clausesCome_3 : decode cX8_clausesCome 3 = .ok (.istore_n 2, 1) := by decide +kernel
theorem dX8_clausesCome_4 : decode cX8_clausesCome 4 = .ok (.iload_n 2, 1) := by decide +kernel
theorem dX8_clausesCome_5 : decode cX8_clausesCome 5 = .ok (.aload_n 0, 1) := by decide +kernel
theorem dX8_clausesCome_6 : decode cX8_clausesCome 6 = .ok (.getfield 21, 3) := by decide +kernel
theorem dX8_clausesCome_9 : decode cX8_clausesCome 9 = .ok (.getfield 340, 3) := by decide +kernel
theorem dX8_clausesCome_12 : decode cX8_clausesCome 12 = .ok (.if_icmp .ge 56, 3) := by decide +kernel
theorem dX8_clausesCome_15 : decode cX8_clausesCome 15 = .ok (.aload_n 0, 1) := by decide +kernel
theorem dX8_clausesCome_16 : decode cX8_clausesCome 16 = .ok (.aload_n 0, 1) := by decide +kernel
theorem dX8_clausesCome_17 : decode cX8_clausesCome 17 = .ok (.getfield 21, 3) := by decide +kernel
theorem dX8_clausesCome_20 : decode cX8_clausesCome 20 = .ok (.getfield 343, 3) := by decide +kernel
theorem dX8_clausesCome_23 : decode cX8_clausesCome 23 = .ok (.iload_n 2, 1) := by decide +kernel
theorem dX8_clausesCome_24 : decode cX8_clausesCome 24 = .ok (.iaload, 1) := by decide +kernel
theorem dX8_clausesCome_25 : decode cX8_clausesCome 25 = .ok (.aload_n 0, 1) := by decide +kernel
theorem dX8_clausesCome_26 : decode cX8_clausesCome 26 = .ok (.getfield 21, 3) := by decide +kernel
theorem dX8_clausesCome_29 : decode cX8_clausesCome 29 = .ok (.getfield 345, 3) := by decide +kernel
theorem dX8_clausesCome_32 : decode cX8_clausesCome 32 = .ok (.iload_n 2, 1) := by decide +kernel
theorem dX8_clausesCome_33 : decode cX8_clausesCome 33 = .ok (.iaload, 1) := by decide +kernel
theorem dX8_clausesCome_34 : decode cX8_clausesCome 34 = .ok (.aload_n 0, 1) := by decide +kernel
theorem dX8_clausesCome_35 : decode cX8_clausesCome 35 = .ok (.getfield 21, 3) := by decide +kernel
theorem dX8_clausesCome_38 : decode cX8_clausesCome 38 = .ok (.getfield 346, 3) := by decide +kernel
theorem dX8_clausesCome_41 : decode cX8_clausesCome 41 = .ok (.iload_n 2, 1) := by decide +kernel
theorem dX8_clausesCome_42 : decode cX8_clausesCome 42 = .ok (.iaload, 1) := by decide +kernel
theorem dX8_clausesCome_43 : decode cX8_clausesCome 43 = .ok (.aload_n 0, 1) := by decide +kernel
theorem dX8_clausesCome_44 : decode cX8_clausesCome 44 = .ok (.getfield 21, 3) := by decide +kernel
theorem dX8_clausesCome_47 : decode cX8_clausesCome 47 = .ok (.getfield 347, 3) := by decide +kernel
theorem dX8_clausesCome_50 : decode cX8_clausesCome 50 = .ok (.iload_n 2, 1) := by decide +kernel
theorem dX8_clausesCome_51 : decode cX8_clausesCome 51 = .ok (.iaload, 1) := by decide +kernel
theorem dX8_clausesCome_52 : decode cX8_clausesCome 52 = .ok (.iconst 1, 1) := by decide +kernel
theorem dX8_clausesCome_53 : decode cX8_clausesCome 53 = .ok (.invokevirtual 47, 3) := by decide +kernel
theorem dX8_clausesCome_56 : decode cX8_clausesCome 56 = .ok (.ifCond .lt 6, 3) := by decide +kernel
theorem dX8_clausesCome_59 : decode cX8_clausesCome 59 = .ok (.iinc 1 1, 3) := by decide +kernel
theorem dX8_clausesCome_62 : decode cX8_clausesCome 62 = .ok (.iinc 2 1, 3) := by decide +kernel
theorem dX8_clausesCome_65 : decode cX8_clausesCome 65 = .ok (.goto (-61), 3) := by decide +kernel
theorem dX8_clausesCome_68 : decode cX8_clausesCome 68 = .ok (.iload_n 1, 1) := by decide +kernel
theorem dX8_clausesCome_69 : decode cX8_clausesCome 69 = .ok (.ireturn, 1) := by decide +kernel
theorem dX8_leastKeep_0 : decode cX8_leastKeep 0 = .ok (.aload_n 1, 1) := by decide +kernel
theorem dX8_leastKeep_1 : decode cX8_leastKeep 1 = .ok (.sipush 200, 3) := by decide +kernel
theorem dX8_leastKeep_4 : decode cX8_leastKeep 4 = .ok (.aload_n 0, 1) := by decide +kernel
theorem dX8_leastKeep_5 : decode cX8_leastKeep 5 = .ok (.getfield 12, 3) := by decide +kernel
theorem dX8_leastKeep_8 : decode cX8_leastKeep 8 = .ok (.getfield 51, 3) := by decide +kernel
theorem dX8_leastKeep_11 : decode cX8_leastKeep 11 = .ok (.aload_n 0, 1) := by decide +kernel
theorem dX8_leastKeep_12 : decode cX8_leastKeep 12 = .ok (.getfield 12, 3) := by decide +kernel
theorem dX8_leastKeep_15 : decode cX8_leastKeep 15 = .ok (.getfield 82, 3) := by decide +kernel
theorem dX8_leastKeep_18 : decode cX8_leastKeep 18 = .ok (.invokevirtual 348, 3) := by decide +kernel
theorem dX8_leastKeep_21 : decode cX8_leastKeep 21 = .ok (.iload_n 2, 1) := by decide +kernel
theorem dX8_leastKeep_22 : decode cX8_leastKeep 22 = .ok (.if_icmp .ge 6, 3) := by decide +kernel
theorem dX8_leastKeep_25 : decode cX8_leastKeep 25 = .ok (.bipush (-5), 2) := by decide +kernel
theorem dX8_leastKeep_27 : decode cX8_leastKeep 27 = .ok (.ireturn, 1) := by decide +kernel
theorem dX8_leastKeep_28 : decode cX8_leastKeep 28 = .ok (.iconst 0, 1) := by decide +kernel
theorem dX8_leastKeep_29 : decode cX8_leastKeep 29 = .ok (.istore_n 3, 1) := by decide +kernel
theorem dX8_leastKeep_30 : decode cX8_leastKeep 30 = .ok (.sipush 200, 3) := by decide +kernel
theorem dX8_leastKeep_33 : decode cX8_leastKeep 33 = .ok (.istore 4, 2) := by decide +kernel
theorem dX8_leastKeep_35 : decode cX8_leastKeep 35 = .ok (.iconst 0, 1) := by decide +kernel
theorem dX8_leastKeep_36 : decode cX8_leastKeep 36 = .ok (.istore 5, 2) := by decide +kernel
theorem dX8_leastKeep_38 : decode cX8_leastKeep 38 = .ok (.iload 5, 2) := by decide +kernel
theorem dX8_leastKeep_40 : decode cX8_leastKeep 40 = .ok (.sipush 200, 3) := by decide +kernel
theorem dX8_leastKeep_43 : decode cX8_leastKeep 43 = .ok (.if_icmp .gt 59, 3) := by decide +kernel
theorem dX8_leastKeep_46 : decode cX8_leastKeep 46 = .ok (.iload_n 3, 1) := by decide +kernel
theorem dX8_leastKeep_47 : decode cX8_leastKeep 47 = .ok (.iload 4, 2) := by decide +kernel
theorem dX8_leastKeep_49 : decode cX8_leastKeep 49 = .ok (.if_icmp .ge 53, 3) := by decide +kernel
theorem dX8_leastKeep_52 : decode cX8_leastKeep 52 = .ok (.iload_n 3, 1) := by decide +kernel
theorem dX8_leastKeep_53 : decode cX8_leastKeep 53 = .ok (.iload 4, 2) := by decide +kernel
theorem dX8_leastKeep_55 : decode cX8_leastKeep 55 = .ok (.iadd, 1) := by decide +kernel
theorem dX8_leastKeep_56 : decode cX8_leastKeep 56 = .ok (.iconst 2, 1) := by decide +kernel
theorem dX8_leastKeep_57 : decode cX8_leastKeep 57 = .ok (.idiv, 1) := by decide +kernel
theorem dX8_leastKeep_58 : decode cX8_leastKeep 58 = .ok (.istore 6, 2) := by decide +kernel
theorem dX8_leastKeep_60 : decode cX8_leastKeep 60 = .ok (.aload_n 1, 1) := by decide +kernel
theorem dX8_leastKeep_61 : decode cX8_leastKeep 61 = .ok (.iload 6, 2) := by decide +kernel
theorem dX8_leastKeep_63 : decode cX8_leastKeep 63 = .ok (.aload_n 0, 1) := by decide +kernel
theorem dX8_leastKeep_64 : decode cX8_leastKeep 64 = .ok (.getfield 12, 3) := by decide +kernel
theorem dX8_leastKeep_67 : decode cX8_leastKeep 67 = .ok (.getfield 51, 3) := by decide +kernel
theorem dX8_leastKeep_70 : decode cX8_leastKeep 70 = .ok (.aload_n 0, 1) := by decide +kernel
theorem dX8_leastKeep_71 : decode cX8_leastKeep 71 = .ok (.getfield 12, 3) := by decide +kernel
theorem dX8_leastKeep_74 : decode cX8_leastKeep 74 = .ok (.getfield 82, 3) := by decide +kernel
theorem dX8_leastKeep_77 : decode cX8_leastKeep 77 = .ok (.invokevirtual 348, 3) := by decide +kernel
theorem dX8_leastKeep_80 : decode cX8_leastKeep 80 = .ok (.iload_n 2, 1) := by decide +kernel
theorem dX8_leastKeep_81 : decode cX8_leastKeep 81 = .ok (.if_icmp .lt 10, 3) := by decide +kernel
theorem dX8_leastKeep_84 : decode cX8_leastKeep 84 = .ok (.iload 6, 2) := by decide +kernel
theorem dX8_leastKeep_86 : decode cX8_leastKeep 86 = .ok (.istore 4, 2) := by decide +kernel
theorem dX8_leastKeep_88 : decode cX8_leastKeep 88 = .ok (.goto 8, 3) := by decide +kernel
theorem dX8_leastKeep_91 : decode cX8_leastKeep 91 = .ok (.iload 6, 2) := by decide +kernel
theorem dX8_leastKeep_93 : decode cX8_leastKeep 93 = .ok (.iconst 1, 1) := by decide +kernel
theorem dX8_leastKeep_94 : decode cX8_leastKeep 94 = .ok (.iadd, 1) := by decide +kernel
theorem dX8_leastKeep_95 : decode cX8_leastKeep 95 = .ok (.istore_n 3, 1) := by decide +kernel
theorem dX8_leastKeep_96 : decode cX8_leastKeep 96 = .ok (.iinc 5 1, 3) := by decide +kernel
theorem dX8_leastKeep_99 : decode cX8_leastKeep 99 = .ok (.goto (-61), 3) := by decide +kernel
theorem dX8_leastKeep_102 : decode cX8_leastKeep 102 = .ok (.iload_n 3, 1) := by decide +kernel
theorem dX8_leastKeep_103 : decode cX8_leastKeep 103 = .ok (.ireturn, 1) := by decide +kernel
theorem dX8_harmlessKeeps_0 : decode cX8_harmlessKeeps 0 = .ok (.iconst 0, 1) := by decide +kernel
theorem dX8_harmlessKeeps_1 : decode cX8_harmlessKeeps 1 = .ok (.istore_n 3, 1) := by decide +kernel
theorem dX8_harmlessKeeps_2 : decode cX8_harmlessKeeps 2 = .ok (.iconst 0, 1) := by decide +kernel
theorem dX8_harmlessKeeps_3 : decode cX8_harmlessKeeps 3 = .ok (.istore 4, 2) := by decide +kernel
theorem dX8_harmlessKeeps_5 : decode cX8_harmlessKeeps 5 = .ok (.iload 4, 2) := by decide +kernel
theorem dX8_harmlessKeeps_7 : decode cX8_harmlessKeeps 7 = .ok (.iload_n 2, 1) := by decide +kernel
theorem dX8_harmlessKeeps_8 : decode cX8_harmlessKeeps 8 = .ok (.if_icmp .ge 37, 3) := by decide +kernel
theorem dX8_harmlessKeeps_11 : decode cX8_harmlessKeeps 11 = .ok (.aload_n 1, 1) := by decide +kernel
theorem dX8_harmlessKeeps_12 : decode cX8_harmlessKeeps 12 = .ok (.iconst 5, 1) := by decide +kernel
theorem dX8_harmlessKeeps_13 : decode cX8_harmlessKeeps 13 = .ok (.iload 4, 2) := by decide +kernel
theorem dX8_harmlessKeeps_15 : decode cX8_harmlessKeeps 15 = .ok (.imul, 1) := by decide +kernel
theorem dX8_harmlessKeeps_16 : decode cX8_harmlessKeeps 16 = .ok (.aload_n 0, 1) := by decide +kernel
theorem dX8_harmlessKeeps_17 : decode cX8_harmlessKeeps 17 = .ok (.getfield 12, 3) := by decide +kernel
theorem dX8_harmlessKeeps_20 : decode cX8_harmlessKeeps 20 = .ok (.getfield 51, 3) := by decide +kernel
theorem dX8_harmlessKeeps_23 : decode cX8_harmlessKeeps 23 = .ok (.aload_n 0, 1) := by decide +kernel
theorem dX8_harmlessKeeps_24 : decode cX8_harmlessKeeps 24 = .ok (.getfield 12, 3) := by decide +kernel
theorem dX8_harmlessKeeps_27 : decode cX8_harmlessKeeps 27 = .ok (.getfield 82, 3) := by decide +kernel
theorem dX8_harmlessKeeps_30 : decode cX8_harmlessKeeps 30 = .ok (.invokevirtual 207, 3) := by decide +kernel
theorem dX8_harmlessKeeps_33 : decode cX8_harmlessKeeps 33 = .ok (.ifCond .ne 6, 3) := by decide +kernel
theorem dX8_harmlessKeeps_36 : decode cX8_harmlessKeeps 36 = .ok (.iinc 3 1, 3) := by decide +kernel
theorem dX8_harmlessKeeps_39 : decode cX8_harmlessKeeps 39 = .ok (.iinc 4 1, 3) := by decide +kernel
theorem dX8_harmlessKeeps_42 : decode cX8_harmlessKeeps 42 = .ok (.goto (-37), 3) := by decide +kernel
theorem dX8_harmlessKeeps_45 : decode cX8_harmlessKeeps 45 = .ok (.iload_n 3, 1) := by decide +kernel
theorem dX8_harmlessKeeps_46 : decode cX8_harmlessKeeps 46 = .ok (.ireturn, 1) := by decide +kernel
theorem dX8_commonDivisor_0 : decode cX8_commonDivisor 0 = .ok (.iload_n 1, 1) := by decide +kernel
theorem dX8_commonDivisor_1 : decode cX8_commonDivisor 1 = .ok (.istore_n 2, 1) := by decide +kernel
theorem dX8_commonDivisor_2 : decode cX8_commonDivisor 2 = .ok (.iload_n 2, 1) := by decide +kernel
theorem dX8_commonDivisor_3 : decode cX8_commonDivisor 3 = .ok (.iconst 1, 1) := by decide +kernel
theorem dX8_commonDivisor_4 : decode cX8_commonDivisor 4 = .ok (.if_icmp .le 23, 3) := by decide +kernel
theorem dX8_commonDivisor_7 : decode cX8_commonDivisor 7 = .ok (.iload_n 0, 1) := by decide +kernel
theorem dX8_commonDivisor_8 : decode cX8_commonDivisor 8 = .ok (.iload_n 2, 1) := by decide +kernel
theorem dX8_commonDivisor_9 : decode cX8_commonDivisor 9 = .ok (.irem, 1) := by decide +kernel
theorem dX8_commonDivisor_10 : decode cX8_commonDivisor 10 = .ok (.ifCond .ne 11, 3) := by decide +kernel
theorem dX8_commonDivisor_13 : decode cX8_commonDivisor 13 = .ok (.iload_n 1, 1) := by decide +kernel
theorem dX8_commonDivisor_14 : decode cX8_commonDivisor 14 = .ok (.iload_n 2, 1) := by decide +kernel
theorem dX8_commonDivisor_15 : decode cX8_commonDivisor 15 = .ok (.irem, 1) := by decide +kernel
theorem dX8_commonDivisor_16 : decode cX8_commonDivisor 16 = .ok (.ifCond .ne 5, 3) := by decide +kernel
theorem dX8_commonDivisor_19 : decode cX8_commonDivisor 19 = .ok (.iload_n 2, 1) := by decide +kernel
theorem dX8_commonDivisor_20 : decode cX8_commonDivisor 20 = .ok (.ireturn, 1) := by decide +kernel
theorem dX8_commonDivisor_21 : decode cX8_commonDivisor 21 = .ok (.iinc 2 (-1), 3) := by decide +kernel
theorem dX8_commonDivisor_24 : decode cX8_commonDivisor 24 = .ok (.goto (-22), 3) := by decide +kernel
theorem dX8_commonDivisor_27 : decode cX8_commonDivisor 27 = .ok (.iconst 1, 1) := by decide +kernel
theorem dX8_commonDivisor_28 : decode cX8_commonDivisor 28 = .ok (.ireturn, 1) := by decide +kernel
theorem dX9_init_0 : decode cX9_init 0 = .ok (.aload_n 0, 1) := by decide +kernel
theorem dX9_init_1 : decode cX9_init 1 = .ok (.invokespecial 5, 3) := by decide +kernel
theorem dX9_init_4 : decode cX9_init 4 = .ok (.aload_n 0, 1) := by decide +kernel
theorem dX9_init_5 : decode cX9_init 5 = .ok (.sipush 5140, 3) := by decide +kernel
theorem dX9_init_8 : decode cX9_init 8 = .ok (.newarray .int, 2) := by decide +kernel
theorem dX9_init_10 : decode cX9_init 10 = .ok (.putfield 11, 3) := by decide +kernel
theorem dX9_init_13 : decode cX9_init 13 = .ok (.aload_n 0, 1) := by decide +kernel
theorem dX9_init_14 : decode cX9_init 14 = .ok (.sipush 5140, 3) := by decide +kernel
theorem dX9_init_17 : decode cX9_init 17 = .ok (.newarray .int, 2) := by decide +kernel
theorem dX9_init_19 : decode cX9_init 19 = .ok (.putfield 15, 3) := by decide +kernel
theorem dX9_init_22 : decode cX9_init 22 = .ok (.aload_n 0, 1) := by decide +kernel
theorem dX9_init_23 : decode cX9_init 23 = .ok (.sipush 5140, 3) := by decide +kernel
theorem dX9_init_26 : decode cX9_init 26 = .ok (.newarray .int, 2) := by decide +kernel
theorem dX9_init_28 : decode cX9_init 28 = .ok (.putfield 18, 3) := by decide +kernel
theorem dX9_init_31 : decode cX9_init 31 = .ok (.aload_n 0, 1) := by decide +kernel
theorem dX9_init_32 : decode cX9_init 32 = .ok (.bipush 100, 2) := by decide +kernel
theorem dX9_init_34 : decode cX9_init 34 = .ok (.newarray .int, 2) := by decide +kernel
theorem dX9_init_36 : decode cX9_init 36 = .ok (.putfield 21, 3) := by decide +kernel
theorem dX9_init_39 : decode cX9_init 39 = .ok (.aload_n 0, 1) := by decide +kernel
theorem dX9_init_40 : decode cX9_init 40 = .ok (.bipush 60, 2) := by decide +kernel
theorem dX9_init_42 : decode cX9_init 42 = .ok (.newarray .int, 2) := by decide +kernel
theorem dX9_init_44 : decode cX9_init 44 = .ok (.putfield 24, 3) := by decide +kernel
theorem dX9_init_47 : decode cX9_init 47 = .ok (.aload_n 0, 1) := by decide +kernel
theorem dX9_init_48 : decode cX9_init 48 = .ok (.bipush 26, 2) := by decide +kernel
theorem dX9_init_50 : decode cX9_init 50 = .ok (.newarray .int, 2) := by decide +kernel
theorem dX9_init_52 : decode cX9_init 52 = .ok (.putfield 27, 3) := by decide +kernel
theorem dX9_init_55 : decode cX9_init 55 = .ok (.aload_n 0, 1) := by decide +kernel
theorem dX9_init_56 : decode cX9_init 56 = .ok (.iconst 4, 1) := by decide +kernel
theorem dX9_init_57 : decode cX9_init 57 = .ok (.newarray .int, 2) := by decide +kernel
theorem dX9_init_59 : decode cX9_init 59 = .ok (.putfield 30, 3) := by decide +kernel
theorem dX9_init_62 : decode cX9_init 62 = .ok (.aload_n 0, 1) := by decide +kernel
theorem dX9_init_63 : decode cX9_init 63 = .ok (.sipush 240, 3) := by decide +kernel
theorem dX9_init_66 : decode cX9_init 66 = .ok (.newarray .int, 2) := by decide +kernel
theorem dX9_init_68 : decode cX9_init 68 = .ok (.putfield 33, 3) := by decide +kernel
theorem dX9_init_71 : decode cX9_init 71 = .ok (.aload_n 0, 1) := by decide +kernel
theorem dX9_init_72 : decode cX9_init 72 = .ok (.bipush 6, 2) := by decide +kernel
theorem dX9_init_74 : decode cX9_init 74 = .ok (.newarray .int, 2) := by decide +kernel
theorem dX9_init_76 : decode cX9_init 76 = .ok (.putfield 36, 3) := by decide +kernel
theorem dX9_init_79 : decode cX9_init 79 = .ok (.aload_n 0, 1) := by decide +kernel
theorem dX9_init_80 : decode cX9_init 80 = .ok (.bipush 6, 2) := by decide +kernel
theorem dX9_init_82 : decode cX9_init 82 = .ok (.newarray .int, 2) := by decide +kernel
theorem dX9_init_84 : decode cX9_init 84 = .ok (.putfield 39, 3) := by decide +kernel
theorem dX9_init_87 : decode cX9_init 87 = .ok (.aload_n 0, 1) := by decide +kernel
theorem dX9_init_88 : decode cX9_init 88 = .ok (.bipush 6, 2) := by decide +kernel
theorem dX9_init_90 : decode cX9_init 90 = .ok (.bipush 60, 2) := by decide +kernel
theorem dX9_init_92 : decode cX9_init 92 = .ok (.multianewarray 42 2, 4) := by decide +kernel
theorem dX9_init_96 : decode cX9_init 96 = .ok (.putfield 44, 3) := by decide +kernel
theorem dX9_init_99 : decode cX9_init 99 = .ok (.aload_n 0, 1) := by decide +kernel
theorem dX9_init_100 : decode cX9_init 100 = .ok (.bipush 60, 2) := by decide +kernel
theorem dX9_init_102 : decode cX9_init 102 = .ok (.newarray .long, 2) := by decide +kernel
theorem dX9_init_104 : decode cX9_init 104 = .ok (.putfield 47, 3) := by decide +kernel
theorem dX9_init_107 : decode cX9_init 107 = .ok (.iconst 0, 1) := by decide +kernel
theorem dX9_init_108 : decode cX9_init 108 = .ok (.istore_n 1, 1) := by decide +kernel
theorem dX9_init_109 : decode cX9_init 109 = .ok (.iload_n 1, 1) := by decide +kernel
theorem dX9_init_110 : decode cX9_init 110 = .ok (.iconst 4, 1) := by decide +kernel
theorem dX9_init_111 : decode cX9_init 111 = .ok (.if_icmp .ge 27, 3) := by decide +kernel
theorem dX9_init_114 : decode cX9_init 114 = .ok (.aload_n 0, 1) := by decide +kernel
theorem dX9_init_115 : decode cX9_init 115 = .ok (.iload_n 1, 1) := by decide +kernel
theorem dX9_init_116 : decode cX9_init 116 = .ok (.sipush 1270, 3) := by decide +kernel
theorem dX9_init_119 : decode cX9_init 119 = .ok (.iconst 1, 1) := by decide +kernel
theorem dX9_init_120 : decode cX9_init 120 = .ok (.invokevirtual 51, 3) := by decide +kernel
theorem dX9_init_123 : decode cX9_init 123 = .ok (.aload_n 0, 1) := by decide +kernel
theorem dX9_init_124 : decode cX9_init 124 = .ok (.iload_n 1, 1) := by decide +kernel
theorem dX9_init_125 : decode cX9_init 125 = .ok (.sipush 1272, 3) := by decide +kernel
theorem dX9_init_128 : decode cX9_init 128 = .ok (.iconst (-1), 1) := by decide +kernel
theorem dX9_init_129 : decode cX9_init 129 = .ok (.invokevirtual 51, 3) := by decide +kernel
theorem dX9_init_132 : decode cX9_init 132 = .ok (.iinc 1 1, 3) := by decide +kernel
theorem dX9_init_135 : decode cX9_init 135 = .ok (.goto (-26), 3) := by decide +kernel
theorem dX9_init_138 : decode cX9_init 138 = .ok (.aload_n 0, 1) := by decide +kernel
theorem dX9_init_139 : decode cX9_init 139 = .ok (.getfield 11, 3) := by decide +kernel
theorem dX9_init_142 : decode cX9_init 142 = .ok (.sipush 5097, 3) := by decide +kernel
theorem dX9_init_145 : decode cX9_init 145 = .ok (.iconst 5, 1) := by decide +kernel
theorem dX9_init_146 : decode cX9_init 146 = .ok (.iastore, 1) := by decide +kernel
theorem dX9_init_147 : decode cX9_init 147 = .ok (.aload_n 0, 1) := by decide +kernel
theorem dX9_init_148 : decode cX9_init 148 = .ok (.getfield 11, 3) := by decide +kernel
theorem dX9_init_151 : decode cX9_init 151 = .ok (.sipush 5098, 3) := by decide +kernel
theorem dX9_init_154 : decode cX9_init 154 = .ok (.bipush 100, 2) := by decide +kernel
theorem dX9_init_156 : decode cX9_init 156 = .ok (.iastore, 1) := by decide +kernel
theorem dX9_init_157 : decode cX9_init 157 = .ok (.aload_n 0, 1) := by decide +kernel
theorem dX9_init_158 : decode cX9_init 158 = .ok (.getfield 11, 3) := by decide +kernel
theorem dX9_init_161 : decode cX9_init 161 = .ok (.sipush 5099, 3) := by decide +kernel
theorem dX9_init_164 : decode cX9_init 164 = .ok (.bipush 50, 2) := by decide +kernel
theorem dX9_init_166 : decode cX9_init 166 = .ok (.iastore, 1) := by decide +kernel
theorem dX9_init_167 : decode cX9_init 167 = .ok (.iconst 0, 1) := by decide +kernel
theorem dX9_init_168 : decode cX9_init 168 = .ok (.istore_n 1, 1) := by decide +kernel
theorem dX9_init_169 : decode cX9_init 169 = .ok (.iload_n 1, 1) := by decide +kernel
theorem dX9_init_170 : decode cX9_init 170 = .ok (.bipush 6, 2) := by decide +kernel
theorem dX9_init_172 : decode cX9_init 172 = .ok (.if_icmp .ge 16, 3) := by decide +kernel
theorem dX9_init_175 : decode cX9_init 175 = .ok (.aload_n 0, 1) := by decide +kernel
theorem dX9_init_176 : decode cX9_init 176 = .ok (.getfield 36, 3) := by decide +kernel
theorem dX9_init_179 : decode cX9_init 179 = .ok (.iload_n 1, 1) := by decide +kernel
theorem dX9_init_180 : decode cX9_init 180 = .ok (.iconst (-1), 1) := by decide +kernel
theorem dX9_init_181 : decode cX9_init 181 = .ok (.iastore, 1) := by decide +kernel
theorem dX9_init_182 : decode cX9_init 182 = .ok (.iinc 1 1, 3) := by decide +kernel
theorem dX9_init_185 : decode cX9_init 185 = .ok (.goto (-16), 3) := by decide +kernel
theorem dX9_init_188 : decode cX9_init 188 = .ok (.return_, 1) := by decide +kernel
theorem dX9_in_0 : decode cX9_in 0 = .ok (.iload_n 0, 1) := by decide +kernel
theorem dX9_in_1 : decode cX9_in 1 = .ok (.iload_n 1, 1) := by decide +kernel
theorem dX9_in_2 : decode cX9_in 2 = .ok (.if_icmp .lt 12, 3) := by decide +kernel
theorem dX9_in_5 : decode cX9_in 5 = .ok (.iload_n 0, 1) := by decide +kernel
theorem dX9_in_6 : decode cX9_in 6 = .ok (.iload_n 2, 1) := by decide +kernel
theorem dX9_in_7 : decode cX9_in 7 = .ok (.if_icmp .gt 7, 3) := by decide +kernel
theorem dX9_in_10 : decode cX9_in 10 = .ok (.iconst 1, 1) := by decide +kernel
theorem dX9_in_11 : decode cX9_in 11 = .ok (.goto 4, 3) := by decide +kernel
theorem dX9_in_14 : decode cX9_in 14 = .ok (.iconst 0, 1) := by decide +kernel
theorem dX9_in_15 : decode cX9_in 15 = .ok (.ireturn, 1) := by decide +kernel
theorem dX9_copy_0 : decode cX9_copy 0 = .ok (.iconst 0, 1) := by decide +kernel
theorem dX9_copy_1 : decode cX9_copy 1 = .ok (.istore_n 2, 1) := by decide +kernel
theorem dX9_copy_2 : decode cX9_copy 2 = .ok (.iload_n 2, 1) := by decide +kernel
theorem dX9_copy_3 : decode cX9_copy 3 = .ok (.sipush 5140, 3) := by decide +kernel
theorem dX9_copy_6 : decode cX9_copy 6 = .ok (.if_icmp .ge 15, 3) := by decide +kernel
theorem dX9_copy_9 : decode cX9_copy 9 = .ok (.aload_n 1, 1) := by decide +kernel
theorem dX9_copy_10 : decode cX9_copy 10 = .ok (.iload_n 2, 1) := by decide +kernel
theorem dX9_copy_11 : decode cX9_copy 11 = .ok (.aload_n 0, 1) := by decide +kernel
theorem dX9_copy_12 : decode cX9_copy 12 = .ok (.iload_n 2, 1) := by decide +kernel
theorem dX9_copy_13 : decode cX9_copy 13 = .ok (.iaload, 1) := by decide +kernel
theorem dX9_copy_14 : decode cX9_copy 14 = .ok (.iastore, 1) := by decide +kernel
theorem dX9_copy_15 : decode cX9_copy 15 = .ok (.iinc 2 1, 3) := by decide +kernel
theorem dX9_copy_18 : decode cX9_copy 18 = .ok (.goto (-16), 3) := by decide +kernel
theorem dX9_copy_21 : decode cX9_copy 21 = .ok (.return_, 1) := by decide +kernel
theorem dX9_isLog_0 : decode cX9_isLog 0 = .ok (.iload_n 0, 1) := by decide +kernel
theorem dX9_isLog_1 : decode cX9_isLog 1 = .ok (.iconst 0, 1) := by decide +kernel
theorem dX9_isLog_2 : decode cX9_isLog 2 = .ok (.iconst 3, 1) := by decide +kernel
theorem dX9_isLog_3 : decode cX9_isLog 3 = .ok (.invokestatic 55, 3) := by decide +kernel
theorem dX9_isLog_6 : decode cX9_isLog 6 = .ok (.ireturn, 1) := by decide +kernel
theorem dX9_at_0 : decode cX9_at 0 = .ok (.aload_n 0, 1) := by decide +kernel
theorem dX9_at_1 : decode cX9_at 1 = .ok (.getfield 11, 3) := by decide +kernel
theorem dX9_at_4 : decode cX9_at 4 = .ok (.iload_n 1, 1) := by decide +kernel
theorem dX9_at_5 : decode cX9_at 5 = .ok (.sipush 1274, 3) := by decide +kernel
theorem dX9_at_8 : decode cX9_at 8 = .ok (.imul, 1) := by decide +kernel
theorem dX9_at_9 : decode cX9_at 9 = .ok (.iload_n 2, 1) := by decide +kernel
theorem dX9_at_10 : decode cX9_at 10 = .ok (.iadd, 1) := by decide +kernel
theorem dX9_at_11 : decode cX9_at 11 = .ok (.iaload, 1) := by decide +kernel
theorem dX9_at_12 : decode cX9_at 12 = .ok (.ireturn, 1) := by decide +kernel
theorem dX9_sets_0 : decode cX9_sets 0 = .ok (.aload_n 0, 1) := by decide +kernel
theorem dX9_sets_1 : decode cX9_sets 1 = .ok (.getfield 11, 3) := by decide +kernel
theorem dX9_sets_4 : decode cX9_sets 4 = .ok (.iload_n 1, 1) := by decide +kernel
theorem dX9_sets_5 : decode cX9_sets 5 = .ok (.sipush 1274, 3) := by decide +kernel
theorem dX9_sets_8 : decode cX9_sets 8 = .ok (.imul, 1) := by decide +kernel
theorem dX9_sets_9 : decode cX9_sets 9 = .ok (.iload_n 2, 1) := by decide +kernel
theorem dX9_sets_10 : decode cX9_sets 10 = .ok (.iadd, 1) := by decide +kernel
theorem dX9_sets_11 : decode cX9_sets 11 = .ok (.iload_n 3, 1) := by decide +kernel
theorem dX9_sets_12 : decode cX9_sets 12 = .ok (.iastore, 1) := by decide +kernel
theorem dX9_sets_13 : decode cX9_sets 13 = .ok (.return_, 1) := by decide +kernel
theorem dX9_isThere_0 : decode cX9_isThere 0 = .ok (.iload_n 2, 1) := by decide +kernel
theorem dX9_isThere_1 : decode cX9_isThere 1 = .ok (.iconst 0, 1) := by decide +kernel
theorem dX9_isThere_2 : decode cX9_isThere 2 = .ok (.sipush 199, 3) := by decide +kernel
theorem dX9_isThere_5 : decode cX9_isThere 5 = .ok (.invokestatic 55, 3) := by decide +kernel
theorem dX9_isThere_8 : decode cX9_isThere 8 = .ok (.ifCond .eq 19, 3) := by decide +kernel
theorem dX9_isThere_11 : decode cX9_isThere 11 = .ok (.aload_n 0, 1) := by decide +kernel
theorem dX9_isThere_12 : decode cX9_isThere 12 = .ok (.iload_n 1, 1) := by decide +kernel
theorem dX9_isThere_13 : decode cX9_isThere 13 = .ok (.iconst 0, 1) := by decide +kernel
theorem dX9_isThere_14 : decode cX9_isThere 14 = .ok (.iload_n 2, 1) := by decide +kernel
theorem dX9_isThere_15 : decode cX9_isThere 15 = .ok (.iadd, 1) := by decide +kernel
theorem dX9_isThere_16 : decode cX9_isThere 16 = .ok (.invokevirtual 59, 3) := by decide +kernel
theorem dX9_isThere_19 : decode cX9_isThere 19 = .ok (.iconst 1, 1) := by decide +kernel
theorem dX9_isThere_20 : decode cX9_isThere 20 = .ok (.if_icmp .ne 7, 3) := by decide +kernel
theorem dX9_isThere_23 : decode cX9_isThere 23 = .ok (.iconst 1, 1) := by decide +kernel
theorem dX9_isThere_24 : decode cX9_isThere 24 = .ok (.goto 4, 3) := by decide +kernel
theorem dX9_isThere_27 : decode cX9_isThere 27 = .ok (.iconst 0, 1) := by decide +kernel
theorem dX9_isThere_28 : decode cX9_isThere 28 = .ok (.ireturn, 1) := by decide +kernel
theorem dX9_base_0 : decode cX9_base 0 = .ok (.aload_n 0, 1) := by decide +kernel
theorem dX9_base_1 : decode cX9_base 1 = .ok (.iload_n 1, 1) := by decide +kernel
theorem dX9_base_2 : decode cX9_base 2 = .ok (.sipush 1200, 3) := by decide +kernel
theorem dX9_base_5 : decode cX9_base 5 = .ok (.iload_n 2, 1) := by decide +kernel
theorem dX9_base_6 : decode cX9_base 6 = .ok (.iadd, 1) := by decide +kernel
theorem dX9_base_7 : decode cX9_base 7 = .ok (.invokevirtual 59, 3) := by decide +kernel
theorem dX9_base_10 : decode cX9_base 10 = .ok (.ireturn, 1) := by decide +kernel
theorem dX9_endOf_0 : decode cX9_endOf 0 = .ok (.iload_n 2, 1) := by decide +kernel
theorem dX9_endOf_1 : decode cX9_endOf 1 = .ok (.iconst 1, 1) := by decide +kernel
theorem dX9_endOf_2 : decode cX9_endOf 2 = .ok (.iadd, 1) := by decide +kernel
theorem dX9_endOf_3 : decode cX9_endOf 3 = .ok (.aload_n 0, 1) := by decide +kernel
theorem dX9_endOf_4 : decode cX9_endOf 4 = .ok (.iload_n 1, 1) := by decide +kernel
theorem dX9_endOf_5 : decode cX9_endOf 5 = .ok (.sipush 1270, 3) := by decide +kernel
theorem dX9_endOf_8 : decode cX9_endOf 8 = .ok (.invokevirtual 59, 3) := by decide +kernel
theorem dX9_endOf_11 : decode cX9_endOf 11 = .ok (.if_icmp .ge 14, 3) := by decide +kernel
theorem dX9_endOf_14 : decode cX9_endOf 14 = .ok (.aload_n 0, 1) := by decide +kernel
theorem dX9_endOf_15 : decode cX9_endOf 15 = .ok (.iload_n 1, 1) := by decide +kernel
theorem dX9_endOf_16 : decode cX9_endOf 16 = .ok (.iload_n 2, 1) := by decide +kernel
theorem dX9_endOf_17 : decode cX9_endOf 17 = .ok (.iconst 1, 1) := by decide +kernel
theorem dX9_endOf_18 : decode cX9_endOf 18 = .ok (.iadd, 1) := by decide +kernel
theorem dX9_endOf_19 : decode cX9_endOf 19 = .ok (.invokevirtual 63, 3) := by decide +kernel
theorem dX9_endOf_22 : decode cX9_endOf 22 = .ok (.goto 11, 3) := by decide +kernel
theorem dX9_endOf_25 : decode cX9_endOf 25 = .ok (.aload_n 0, 1) := by decide +kernel
theorem dX9_endOf_26 : decode cX9_endOf 26 = .ok (.iload_n 1, 1) := by decide +kernel
theorem dX9_endOf_27 : decode cX9_endOf 27 = .ok (.sipush 1271, 3) := by decide +kernel
theorem dX9_endOf_30 : decode cX9_endOf 30 = .ok (.invokevirtual 59, 3) := by decide +kernel
theorem dX9_endOf_33 : decode cX9_endOf 33 = .ok (.ireturn, 1) := by decide +kernel
theorem dX9_manyIn_0 : decode cX9_manyIn 0 = .ok (.iconst 0, 1) := by decide +kernel
theorem dX9_manyIn_1 : decode cX9_manyIn 1 = .ok (.istore_n 3, 1) := by decide +kernel
theorem dX9_manyIn_2 : decode cX9_manyIn 2 = .ok (.aload_n 0, 1) := by decide +kernel
theorem dX9_manyIn_3 : decode cX9_manyIn 3 = .ok (.iload_n 1, 1) := by decide +kernel
theorem dX9_manyIn_4 : decode cX9_manyIn 4 = .ok (.iload_n 2, 1) := by decide +kernel
theorem dX9_manyIn_5 : decode cX9_manyIn 5 = .ok (.invokevirtual 63, 3) := by decide +kernel
theorem dX9_manyIn_8 : decode cX9_manyIn 8 = .ok (.istore 4, 2) := by decide +kernel
theorem dX9_manyIn_10 : decode cX9_manyIn 10 = .ok (.iload 4, 2) := by decide +kernel
theorem dX9_manyIn_12 : decode cX9_manyIn 12 = .ok (.aload_n 0, 1) := by decide +kernel
theorem dX9_manyIn_13 : decode cX9_manyIn 13 = .ok (.iload_n 1, 1) := by decide +kernel
theorem dX9_manyIn_14 : decode cX9_manyIn 14 = .ok (.iload_n 2, 1) := by decide +kernel
theorem dX9_manyIn_15 : decode cX9_manyIn 15 = .ok (.invokevirtual 66, 3) := by decide +kernel
theorem dX9_manyIn_18 : decode cX9_manyIn 18 = .ok (.if_icmp .ge 21, 3) := by decide +kernel
theorem dX9_manyIn_21 : decode cX9_manyIn 21 = .ok (.iload_n 3, 1) := by decide +kernel
theorem dX9_manyIn_22 : decode cX9_manyIn 22 = .ok (.aload_n 0, 1) := by decide +kernel
theorem dX9_manyIn_23 : decode cX9_manyIn 23 = .ok (.iload_n 1, 1) := by decide +kernel
theorem dX9_manyIn_24 : decode cX9_manyIn 24 = .ok (.iconst 0, 1) := by decide +kernel
theorem dX9_manyIn_25 : decode cX9_manyIn 25 = .ok (.iload 4, 2) := by decide +kernel
theorem dX9_manyIn_27 : decode cX9_manyIn 27 = .ok (.iadd, 1) := by decide +kernel
theorem dX9_manyIn_28 : decode cX9_manyIn 28 = .ok (.invokevirtual 59, 3) := by decide +kernel
theorem dX9_manyIn_31 : decode cX9_manyIn 31 = .ok (.iadd, 1) := by decide +kernel
theorem dX9_manyIn_32 : decode cX9_manyIn 32 = .ok (.istore_n 3, 1) := by decide +kernel
theorem dX9_manyIn_33 : decode cX9_manyIn 33 = .ok (.iinc 4 1, 3) := by decide +kernel
theorem dX9_manyIn_36 : decode cX9_manyIn 36 = .ok (.goto (-26), 3) := by decide +kernel
theorem dX9_manyIn_39 : decode cX9_manyIn 39 = .ok (.iload_n 3, 1) := by decide +kernel
theorem dX9_manyIn_40 : decode cX9_manyIn 40 = .ok (.ireturn, 1) := by decide +kernel
theorem dX9_weighs_0 : decode cX9_weighs 0 = .ok (.iconst 0, 1) := by decide +kernel
theorem dX9_weighs_1 : decode cX9_weighs 1 = .ok (.istore 4, 2) := by decide +kernel
theorem dX9_weighs_3 : decode cX9_weighs 3 = .ok (.iload_n 2, 1) := by decide +kernel
theorem dX9_weighs_4 : decode cX9_weighs 4 = .ok (.istore 5, 2) := by decide +kernel
theorem dX9_weighs_6 : decode cX9_weighs 6 = .ok (.iload 5, 2) := by decide +kernel
theorem dX9_weighs_8 : decode cX9_weighs 8 = .ok (.iload_n 3, 1) := by decide +kernel
theorem dX9_weighs_9 : decode cX9_weighs 9 = .ok (.if_icmp .ge 42, 3) := by decide +kernel
theorem dX9_weighs_12 : decode cX9_weighs 12 = .ok (.iload 4, 2) := by decide +kernel
theorem dX9_weighs_14 : decode cX9_weighs 14 = .ok (.aload_n 0, 1) := by decide +kernel
theorem dX9_weighs_15 : decode cX9_weighs 15 = .ok (.iload_n 1, 1) := by decide +kernel
theorem dX9_weighs_16 : decode cX9_weighs 16 = .ok (.iconst 0, 1) := by decide +kernel
theorem dX9_weighs_17 : decode cX9_weighs 17 = .ok (.iload 5, 2) := by decide +kernel
theorem dX9_weighs_19 : decode cX9_weighs 19 = .ok (.iadd, 1) := by decide +kernel
theorem dX9_weighs_20 : decode cX9_weighs 20 = .ok (.invokevirtual 59, 3) := by decide +kernel
theorem dX9_weighs_23 : decode cX9_weighs 23 = .ok (.iconst 1, 1) := by decide +kernel
theorem dX9_weighs_24 : decode cX9_weighs 24 = .ok (.if_icmp .ne 17, 3) := by decide +kernel
theorem dX9_weighs_27 : decode cX9_weighs 27 = .ok (.aload_n 0, 1) := by decide +kernel
theorem dX9_weighs_28 : decode cX9_weighs 28 = .ok (.iload_n 1, 1) := by decide +kernel
theorem dX9_weighs_29 : decode cX9_weighs 29 = .ok (.sipush 600, 3) := by decide +kernel
theorem dX9_weighs_32 : decode cX9_weighs 32 = .ok (.iload 5, 2) := by decide +kernel
theorem dX9_weighs_34 : decode cX9_weighs 34 = .ok (.iadd, 1) := by decide +kernel
theorem dX9_weighs_35 : decode cX9_weighs 35 = .ok (.invokevirtual 59, 3) := by decide +kernel
theorem dX9_weighs_38 : decode cX9_weighs 38 = .ok (.goto 4, 3) := by decide +kernel
theorem dX9_weighs_41 : decode cX9_weighs 41 = .ok (.iconst 0, 1) := by decide +kernel
theorem dX9_weighs_42 : decode cX9_weighs 42 = .ok (.iadd, 1) := by decide +kernel
theorem dX9_weighs_43 : decode cX9_weighs 43 = .ok (.istore 4, 2) := by decide +kernel
theorem dX9_weighs_45 : decode cX9_weighs 45 = .ok (.iinc 5 1, 3) := by decide +kernel
theorem dX9_weighs_48 : decode cX9_weighs 48 = .ok (.goto (-42), 3) := by decide +kernel
theorem dX9_weighs_51 : decode cX9_weighs 51 = .ok (.iload 4, 2) := by decide +kernel
theorem dX9_weighs_53 : decode cX9_weighs 53 = .ok (.ireturn, 1) := by decide +kernel
theorem dX9_weightIn_0 : decode cX9_weightIn 0 = .ok (.aload_n 0, 1) := by decide +kernel
theorem dX9_weightIn_1 : decode cX9_weightIn 1 = .ok (.iload_n 1, 1) := by decide +kernel
theorem dX9_weightIn_2 : decode cX9_weightIn 2 = .ok (.aload_n 0, 1) := by decide +kernel
theorem dX9_weightIn_3 : decode cX9_weightIn 3 = .ok (.iload_n 1, 1) := by decide +kernel
theorem dX9_weightIn_4 : decode cX9_weightIn 4 = .ok (.iload_n 2, 1) := by decide +kernel
theorem dX9_weightIn_5 : decode cX9_weightIn 5 = .ok (.invokevirtual 63, 3) := by decide +kernel
theorem dX9_weightIn_8 : decode cX9_weightIn 8 = .ok (.aload_n 0, 1) := by decide +kernel
theorem dX9_weightIn_9 : decode cX9_weightIn 9 = .ok (.iload_n 1, 1) := by decide +kernel
theorem dX9_weightIn_10 : decode cX9_weightIn 10 = .ok (.iload_n 2, 1) := by decide +kernel
theorem dX9_weightIn_11 : decode cX9_weightIn 11 = .ok (.invokevirtual 66, 3) := by decide +kernel
theorem dX9_weightIn_14 : decode cX9_weightIn 14 = .ok (.invokevirtual 69, 3) := by decide +kernel
theorem dX9_weightIn_17 : decode cX9_weightIn 17 = .ok (.ireturn, 1) := by decide +kernel
theorem dX9_all_0 : decode cX9_all 0 = .ok (.iconst 0, 1) := by decide +kernel
theorem dX9_all_1 : decode cX9_all 1 = .ok (.istore_n 2, 1) := by decide +kernel
theorem dX9_all_2 : decode cX9_all 2 = .ok (.iconst 0, 1) := by decide +kernel
theorem dX9_all_3 : decode cX9_all 3 = .ok (.istore_n 3, 1) := by decide +kernel
theorem dX9_all_4 : decode cX9_all 4 = .ok (.iload_n 3, 1) := by decide +kernel
theorem dX9_all_5 : decode cX9_all 5 = .ok (.sipush 200, 3) := by decide +kernel
theorem dX9_all_8 : decode cX9_all 8 = .ok (.if_icmp .ge 20, 3) := by decide +kernel
theorem dX9_all_11 : decode cX9_all 11 = .ok (.iload_n 2, 1) := by decide +kernel
theorem dX9_all_12 : decode cX9_all 12 = .ok (.aload_n 0, 1) := by decide +kernel
theorem dX9_all_13 : decode cX9_all 13 = .ok (.iload_n 1, 1) := by decide +kernel
theorem dX9_all_14 : decode cX9_all 14 = .ok (.iconst 0, 1) := by decide +kernel
theorem dX9_all_15 : decode cX9_all 15 = .ok (.iload_n 3, 1) := by decide +kernel
theorem dX9_all_16 : decode cX9_all 16 = .ok (.iadd, 1) := by decide +kernel
theorem dX9_all_17 : decode cX9_all 17 = .ok (.invokevirtual 59, 3) := by decide +kernel
theorem dX9_all_20 : decode cX9_all 20 = .ok (.iadd, 1) := by decide +kernel
theorem dX9_all_21 : decode cX9_all 21 = .ok (.istore_n 2, 1) := by decide +kernel
theorem dX9_all_22 : decode cX9_all 22 = .ok (.iinc 3 1, 3) := by decide +kernel
theorem dX9_all_25 : decode cX9_all 25 = .ok (.goto (-21), 3) := by decide +kernel
theorem dX9_all_28 : decode cX9_all 28 = .ok (.iload_n 2, 1) := by decide +kernel
theorem dX9_all_29 : decode cX9_all 29 = .ok (.ireturn, 1) := by decide +kernel
theorem dX9_allLogs_0 : decode cX9_allLogs 0 = .ok (.iconst 0, 1) := by decide +kernel
theorem dX9_allLogs_1 : decode cX9_allLogs 1 = .ok (.istore_n 1, 1) := by decide +kernel
theorem dX9_allLogs_2 : decode cX9_allLogs 2 = .ok (.iconst 0, 1) := by decide +kernel
theorem dX9_allLogs_3 : decode cX9_allLogs 3 = .ok (.istore_n 2, 1) := by decide +kernel
theorem dX9_allLogs_4 : decode cX9_allLogs 4 = .ok (.iload_n 2, 1) := by decide +kernel
theorem dX9_allLogs_5 : decode cX9_allLogs 5 = .ok (.iconst 4, 1) := by decide +kernel
theorem dX9_allLogs_6 : decode cX9_allLogs 6 = .ok (.if_icmp .ge 17, 3) := by decide +kernel
theorem dX9_allLogs_9 : decode cX9_allLogs 9 = .ok (.iload_n 1, 1) := by decide +kernel
theorem dX9_allLogs_10 : decode cX9_allLogs 10 = .ok (.aload_n 0, 1) := by decide +kernel
theorem dX9_allLogs_11 : decode cX9_allLogs 11 = .ok (.iload_n 2, 1) := by decide +kernel
theorem dX9_allLogs_12 : decode cX9_allLogs 12 = .ok (.invokevirtual 73, 3) := by decide +kernel
theorem dX9_allLogs_15 : decode cX9_allLogs 15 = .ok (.iadd, 1) := by decide +kernel
theorem dX9_allLogs_16 : decode cX9_allLogs 16 = .ok (.istore_n 1, 1) := by decide +kernel
theorem dX9_allLogs_17 : decode cX9_allLogs 17 = .ok (.iinc 2 1, 3) := by decide +kernel
theorem dX9_allLogs_20 : decode cX9_allLogs 20 = .ok (.goto (-16), 3) := by decide +kernel
theorem dX9_allLogs_23 : decode cX9_allLogs 23 = .ok (.iload_n 1, 1) := by decide +kernel
theorem dX9_allLogs_24 : decode cX9_allLogs 24 = .ok (.ireturn, 1) := by decide +kernel
theorem dX9_segmentOf_0 : decode cX9_segmentOf 0 = .ok (.iconst 0, 1) := by decide +kernel
theorem dX9_segmentOf_1 : decode cX9_segmentOf 1 = .ok (.istore_n 3, 1) := by decide +kernel
theorem dX9_segmentOf_2 : decode cX9_segmentOf 2 = .ok (.iload_n 3, 1) := by decide +kernel
theorem dX9_segmentOf_3 : decode cX9_segmentOf 3 = .ok (.iconst 1, 1) := by decide +kernel
theorem dX9_segmentOf_4 : decode cX9_segmentOf 4 = .ok (.iadd, 1) := by decide +kernel
theorem dX9_segmentOf_5 : decode cX9_segmentOf 5 = .ok (.aload_n 0, 1) := by decide +kernel
theorem dX9_segmentOf_6 : decode cX9_segmentOf 6 = .ok (.iload_n 1, 1) := by decide +kernel
theorem dX9_segmentOf_7 : decode cX9_segmentOf 7 = .ok (.sipush 1270, 3) := by decide +kernel
theorem dX9_segmentOf_10 : decode cX9_segmentOf 10 = .ok (.invokevirtual 59, 3) := by decide +kernel
theorem dX9_segmentOf_13 : decode cX9_segmentOf 13 = .ok (.if_icmp .ge 21, 3) := by decide +kernel
theorem dX9_segmentOf_16 : decode cX9_segmentOf 16 = .ok (.aload_n 0, 1) := by decide +kernel
theorem dX9_segmentOf_17 : decode cX9_segmentOf 17 = .ok (.iload_n 1, 1) := by decide +kernel
theorem dX9_segmentOf_18 : decode cX9_segmentOf 18 = .ok (.iload_n 3, 1) := by decide +kernel
theorem dX9_segmentOf_19 : decode cX9_segmentOf 19 = .ok (.iconst 1, 1) := by decide +kernel
theorem dX9_segmentOf_20 : decode cX9_segmentOf 20 = .ok (.iadd, 1) := by decide +kernel
theorem dX9_segmentOf_21 : decode cX9_segmentOf 21 = .ok (.invokevirtual 63, 3) := by decide +kernel
theorem dX9_segmentOf_24 : decode cX9_segmentOf 24 = .ok (.iload_n 2, 1) := by decide +kernel
theorem dX9_segmentOf_25 : decode cX9_segmentOf 25 = .ok (.if_icmp .gt 9, 3) := by decide +kernel
theorem dX9_segmentOf_28 : decode cX9_segmentOf 28 = .ok (.iinc 3 1, 3) := by decide +kernel
theorem dX9_segmentOf_31 : decode cX9_segmentOf 31 = .ok (.goto (-29), 3) := by decide +kernel
theorem dX9_segmentOf_34 : decode cX9_segmentOf 34 = .ok (.iload_n 3, 1) := by decide +kernel
theorem dX9_segmentOf_35 : decode cX9_segmentOf 35 = .ok (.ireturn, 1) := by decide +kernel
theorem dX9_partGoes_0 : decode cX9_partGoes 0 = .ok (.aload_n 0, 1) := by decide +kernel
theorem dX9_partGoes_1 : decode cX9_partGoes 1 = .ok (.iload_n 1, 1) := by decide +kernel
theorem dX9_partGoes_2 : decode cX9_partGoes 2 = .ok (.sipush 1270, 3) := by decide +kernel
theorem dX9_partGoes_5 : decode cX9_partGoes 5 = .ok (.invokevirtual 59, 3) := by decide +kernel
theorem dX9_partGoes_8 : decode cX9_partGoes 8 = .ok (.iconst 1, 1) := by decide +kernel
theorem dX9_partGoes_9 : decode cX9_partGoes 9 = .ok (.isub, 1) := by decide +kernel
theorem dX9_partGoes_10 : decode cX9_partGoes 10 = .ok (.istore_n 3, 1) := by decide +kernel
theorem dX9_partGoes_11 : decode cX9_partGoes 11 = .ok (.iload_n 2, 1) := by decide +kernel
theorem dX9_partGoes_12 : decode cX9_partGoes 12 = .ok (.istore 4, 2) := by decide +kernel
theorem dX9_partGoes_14 : decode cX9_partGoes 14 = .ok (.iload 4, 2) := by decide +kernel
theorem dX9_partGoes_16 : decode cX9_partGoes 16 = .ok (.iload_n 3, 1) := by decide +kernel
theorem dX9_partGoes_17 : decode cX9_partGoes 17 = .ok (.if_icmp .ge 29, 3) := by decide +kernel
theorem dX9_partGoes_20 : decode cX9_partGoes 20 = .ok (.aload_n 0, 1) := by decide +kernel
theorem dX9_partGoes_21 : decode cX9_partGoes 21 = .ok (.iload_n 1, 1) := by decide +kernel
theorem dX9_partGoes_22 : decode cX9_partGoes 22 = .ok (.sipush 1200, 3) := by decide +kernel
theorem dX9_partGoes_25 : decode cX9_partGoes 25 = .ok (.iload 4, 2) := by decide +kernel
theorem dX9_partGoes_27 : decode cX9_partGoes 27 = .ok (.iadd, 1) := by decide +kernel
theorem dX9_partGoes_28 : decode cX9_partGoes 28 = .ok (.aload_n 0, 1) := by decide +kernel
theorem dX9_partGoes_29 : decode cX9_partGoes 29 = .ok (.iload_n 1, 1) := by decide +kernel
theorem dX9_partGoes_30 : decode cX9_partGoes 30 = .ok (.iload 4, 2) := by decide +kernel
theorem dX9_partGoes_32 : decode cX9_partGoes 32 = .ok (.iconst 1, 1) := by decide +kernel
theorem dX9_partGoes_33 : decode cX9_partGoes 33 = .ok (.iadd, 1) := by decide +kernel
theorem dX9_partGoes_34 : decode cX9_partGoes 34 = .ok (.invokevirtual 63, 3) := by decide +kernel
theorem dX9_partGoes_37 : decode cX9_partGoes 37 = .ok (.invokevirtual 51, 3) := by decide +kernel
theorem dX9_partGoes_40 : decode cX9_partGoes 40 = .ok (.iinc 4 1, 3) := by decide +kernel
theorem dX9_partGoes_43 : decode cX9_partGoes 43 = .ok (.goto (-29), 3) := by decide +kernel
theorem dX9_partGoes_46 : decode cX9_partGoes 46 = .ok (.aload_n 0, 1) := by decide +kernel
theorem dX9_partGoes_47 : decode cX9_partGoes 47 = .ok (.iload_n 1, 1) := by decide +kernel
theorem dX9_partGoes_48 : decode cX9_partGoes 48 = .ok (.sipush 1270, 3) := by decide +kernel
theorem dX9_partGoes_51 : decode cX9_partGoes 51 = .ok (.iload_n 3, 1) := by decide +kernel
theorem dX9_partGoes_52 : decode cX9_partGoes 52 = .ok (.invokevirtual 51, 3) := by decide +kernel
theorem dX9_partGoes_55 : decode cX9_partGoes 55 = .ok (.return_, 1) := by decide +kernel
theorem dX9_comes_0 : decode cX9_comes 0 = .ok (.aload_n 0, 1) := by decide +kernel
theorem dX9_comes_1 : decode cX9_comes 1 = .ok (.iload_n 1, 1) := by decide +kernel
theorem dX9_comes_2 : decode cX9_comes 2 = .ok (.sipush 1271, 3) := by decide +kernel
theorem dX9_comes_5 : decode cX9_comes 5 = .ok (.invokevirtual 59, 3) := by decide +kernel
theorem dX9_comes_8 : decode cX9_comes 8 = .ok (.istore 6, 2) := by decide +kernel
theorem dX9_comes_10 : decode cX9_comes 10 = .ok (.aload_n 0, 1) := by decide +kernel
theorem dX9_comes_11 : decode cX9_comes 11 = .ok (.iload_n 1, 1) := by decide +kernel
theorem dX9_comes_12 : decode cX9_comes 12 = .ok (.iconst 0, 1) := by decide +kernel
theorem dX9_comes_13 : decode cX9_comes 13 = .ok (.iload 6, 2) := by decide +kernel
theorem dX9_comes_15 : decode cX9_comes 15 = .ok (.iadd, 1) := by decide +kernel
theorem dX9_comes_16 : decode cX9_comes 16 = .ok (.iconst 1, 1) := by decide +kernel
theorem dX9_comes_17 : decode cX9_comes 17 = .ok (.invokevirtual 51, 3) := by decide +kernel
theorem dX9_comes_20 : decode cX9_comes 20 = .ok (.aload_n 0, 1) := by decide +kernel
theorem dX9_comes_21 : decode cX9_comes 21 = .ok (.iload_n 1, 1) := by decide +kernel
theorem dX9_comes_22 : decode cX9_comes 22 = .ok (.sipush 200, 3) := by decide +kernel
theorem dX9_comes_25 : decode cX9_comes 25 = .ok (.iload 6, 2) := by decide +kernel
theorem dX9_comes_27 : decode cX9_comes 27 = .ok (.iadd, 1) := by decide +kernel
theorem dX9_comes_28 : decode cX9_comes 28 = .ok (.iload_n 2, 1) := by decide +kernel
theorem dX9_comes_29 : decode cX9_comes 29 = .ok (.invokevirtual 51, 3) := by decide +kernel
theorem dX9_comes_32 : decode cX9_comes 32 = .ok (.aload_n 0, 1) := by decide +kernel
theorem dX9_comes_33 : decode cX9_comes 33 = .ok (.iload_n 1, 1) := by decide +kernel
theorem dX9_comes_34 : decode cX9_comes 34 = .ok (.sipush 400, 3) := by decide +kernel
theorem dX9_comes_37 : decode cX9_comes 37 = .ok (.iload 6, 2) := by decide +kernel
theorem dX9_comes_39 : decode cX9_comes 39 = .ok (.iadd, 1) := by decide +kernel
theorem dX9_comes_40 : decode cX9_comes 40 = .ok (.aload_n 0, 1) := by decide +kernel
theorem dX9_comes_41 : decode cX9_comes 41 = .ok (.getfield 11, 3) := by decide +kernel
theorem dX9_comes_44 : decode cX9_comes 44 = .ok (.sipush 5096, 3) := by decide +kernel
theorem dX9_comes_47 : decode cX9_comes 47 = .ok (.iaload, 1) := by decide +kernel
theorem dX9_comes_48 : decode cX9_comes 48 = .ok (.invokevirtual 51, 3) := by decide +kernel
theorem dX9_comes_51 : decode cX9_comes 51 = .ok (.aload_n 0, 1) := by decide +kernel
theorem dX9_comes_52 : decode cX9_comes 52 = .ok (.iload_n 1, 1) := by decide +kernel
theorem dX9_comes_53 : decode cX9_comes 53 = .ok (.sipush 600, 3) := by decide +kernel
theorem dX9_comes_56 : decode cX9_comes 56 = .ok (.iload 6, 2) := by decide +kernel
theorem dX9_comes_58 : decode cX9_comes 58 = .ok (.iadd, 1) := by decide +kernel
theorem dX9_comes_59 : decode cX9_comes 59 = .ok (.iload 5, 2) := by decide +kernel
theorem dX9_comes_61 : decode cX9_comes 61 = .ok (.invokevirtual 51, 3) := by decide +kernel
theorem dX9_comes_64 : decode cX9_comes 64 = .ok (.aload_n 0, 1) := by decide +kernel
theorem dX9_comes_65 : decode cX9_comes 65 = .ok (.iload_n 1, 1) := by decide +kernel
theorem dX9_comes_66 : decode cX9_comes 66 = .ok (.sipush 800, 3) := by decide +kernel
theorem dX9_comes_69 : decode cX9_comes 69 = .ok (.iload 6, 2) := by decide +kernel
theorem dX9_comes_71 : decode cX9_comes 71 = .ok (.iadd, 1) := by decide +kernel
theorem dX9_comes_72 : decode cX9_comes 72 = .ok (.iload 4, 2) := by decide +kernel
theorem dX9_comes_74 : decode cX9_comes 74 = .ok (.ifCond .eq 7, 3) := by decide +kernel
theorem dX9_comes_77 : decode cX9_comes 77 = .ok (.iconst 1, 1) := by decide +kernel
theorem dX9_comes_78 : decode cX9_comes 78 = .ok (.goto 4, 3) := by decide +kernel
theorem dX9_comes_81 : decode cX9_comes 81 = .ok (.iconst 0, 1) := by decide +kernel
theorem dX9_comes_82 : decode cX9_comes 82 = .ok (.invokevirtual 51, 3) := by decide +kernel
theorem dX9_comes_85 : decode cX9_comes 85 = .ok (.aload_n 0, 1) := by decide +kernel
theorem dX9_comes_86 : decode cX9_comes 86 = .ok (.iload_n 1, 1) := by decide +kernel
theorem dX9_comes_87 : decode cX9_comes 87 = .ok (.sipush 1000, 3) := by decide +kernel
theorem dX9_comes_90 : decode cX9_comes 90 = .ok (.iload 6, 2) := by decide +kernel
theorem dX9_comes_92 : decode cX9_comes 92 = .ok (.iadd, 1) := by decide +kernel
theorem dX9_comes_93 : decode cX9_comes 93 = .ok (.iload_n 3, 1) := by decide +kernel
theorem dX9_comes_94 : decode cX9_comes 94 = .ok (.invokevirtual 51, 3) := by decide +kernel
theorem dX9_comes_97 : decode cX9_comes 97 = .ok (.aload_n 0, 1) := by decide +kernel
theorem dX9_comes_98 : decode cX9_comes 98 = .ok (.iload_n 1, 1) := by decide +kernel
theorem dX9_comes_99 : decode cX9_comes 99 = .ok (.sipush 1271, 3) := by decide +kernel
theorem dX9_comes_102 : decode cX9_comes 102 = .ok (.iload 6, 2) := by decide +kernel
theorem dX9_comes_104 : decode cX9_comes 104 = .ok (.iconst 1, 1) := by decide +kernel
theorem dX9_comes_105 : decode cX9_comes 105 = .ok (.iadd, 1) := by decide +kernel
theorem dX9_comes_106 : decode cX9_comes 106 = .ok (.invokevirtual 51, 3) := by decide +kernel
theorem dX9_comes_109 : decode cX9_comes 109 = .ok (.aload_n 0, 1) := by decide +kernel
theorem dX9_comes_110 : decode cX9_comes 110 = .ok (.iload_n 1, 1) := by decide +kernel
theorem dX9_comes_111 : decode cX9_comes 111 = .ok (.sipush 1270, 3) := by decide +kernel
theorem dX9_comes_114 : decode cX9_comes 114 = .ok (.invokevirtual 59, 3) := by decide +kernel
theorem dX9_comes_117 : decode cX9_comes 117 = .ok (.iconst 1, 1) := by decide +kernel
theorem dX9_comes_118 : decode cX9_comes 118 = .ok (.isub, 1) := by decide +kernel
theorem dX9_comes_119 : decode cX9_comes 119 = .ok (.istore 7, 2) := by decide +kernel
theorem dX9_comes_121 : decode cX9_comes 121 = .ok (.aload_n 0, 1) := by decide +kernel
theorem dX9_comes_122 : decode cX9_comes 122 = .ok (.iload_n 1, 1) := by decide +kernel
theorem dX9_comes_123 : decode cX9_comes 123 = .ok (.iload 7, 2) := by decide +kernel
theorem dX9_comes_125 : decode cX9_comes 125 = .ok (.invokevirtual 77, 3) := by decide +kernel
theorem dX9_comes_128 : decode cX9_comes 128 = .ok (.iconst 4, 1) := by decide +kernel
theorem dX9_comes_129 : decode cX9_comes 129 = .ok (.if_icmp .ge 15, 3) := by decide +kernel
theorem dX9_comes_132 : decode cX9_comes 132 = .ok (.aload_n 0, 1) := by decide +kernel
theorem dX9_comes_133 : decode cX9_comes 133 = .ok (.iload_n 1, 1) := by decide +kernel
theorem dX9_comes_134 : decode cX9_comes 134 = .ok (.iload 7, 2) := by decide +kernel
theorem dX9_comes_136 : decode cX9_comes 136 = .ok (.invokevirtual 80, 3) := by decide +kernel
theorem dX9_comes_139 : decode cX9_comes 139 = .ok (.bipush 20, 2) := by decide +kernel
theorem dX9_comes_141 : decode cX9_comes 141 = .ok (.if_icmp .lt 32, 3) := by decide +kernel
theorem dX9_comes_144 : decode cX9_comes 144 = .ok (.aload_n 0, 1) := by decide +kernel
theorem dX9_comes_145 : decode cX9_comes 145 = .ok (.iload_n 1, 1) := by decide +kernel
theorem dX9_comes_146 : decode cX9_comes 146 = .ok (.sipush 1200, 3) := by decide +kernel
theorem dX9_comes_149 : decode cX9_comes 149 = .ok (.iload 7, 2) := by decide +kernel
theorem dX9_comes_151 : decode cX9_comes 151 = .ok (.iadd, 1) := by decide +kernel
theorem dX9_comes_152 : decode cX9_comes 152 = .ok (.iconst 1, 1) := by decide +kernel
theorem dX9_comes_153 : decode cX9_comes 153 = .ok (.iadd, 1) := by decide +kernel
theorem dX9_comes_154 : decode cX9_comes 154 = .ok (.iload 6, 2) := by decide +kernel
theorem dX9_comes_156 : decode cX9_comes 156 = .ok (.iconst 1, 1) := by decide +kernel
theorem dX9_comes_157 : decode cX9_comes 157 = .ok (.iadd, 1) := by decide +kernel
theorem dX9_comes_158 : decode cX9_comes 158 = .ok (.invokevirtual 51, 3) := by decide +kernel
theorem dX9_comes_161 : decode cX9_comes 161 = .ok (.aload_n 0, 1) := by decide +kernel
theorem dX9_comes_162 : decode cX9_comes 162 = .ok (.iload_n 1, 1) := by decide +kernel
