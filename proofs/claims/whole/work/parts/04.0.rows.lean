theorem dX0_quotient_0 : decode cX0_quotient 0 = .ok (.iload_n 1, 1) := by decide +kernel
theorem dX0_quotient_1 : decode cX0_quotient 1 = .ok (.ifCond .ne 24, 3) := by decide +kernel
theorem dX0_quotient_4 : decode cX0_quotient 4 = .ok (.iload_n 0, 1) := by decide +kernel
theorem dX0_quotient_5 : decode cX0_quotient 5 = .ok (.ifCond .ne 8, 3) := by decide +kernel
theorem dX0_quotient_8 : decode cX0_quotient 8 = .ok (.ldc 9, 2) := by decide +kernel
theorem dX0_quotient_10 : decode cX0_quotient 10 = .ok (.goto 14, 3) := by decide +kernel
theorem dX0_quotient_13 : decode cX0_quotient 13 = .ok (.iload_n 0, 1) := by decide +kernel
theorem dX0_quotient_14 : decode cX0_quotient 14 = .ok (.ifCond .le 8, 3) := by decide +kernel
theorem dX0_quotient_17 : decode cX0_quotient 17 = .ok (.ldc 10, 2) := by decide +kernel
theorem dX0_quotient_19 : decode cX0_quotient 19 = .ok (.goto 5, 3) := by decide +kernel
theorem dX0_quotient_22 : decode cX0_quotient 22 = .ok (.ldc 11, 2) := by decide +kernel
theorem dX0_quotient_24 : decode cX0_quotient 24 = .ok (.ireturn, 1) := by decide +kernel
theorem dX0_quotient_25 : decode cX0_quotient 25 = .ok (.iload_n 0, 1) := by decide +kernel
theorem dX0_quotient_26 : decode cX0_quotient 26 = .ok (.ifCond .ne 14, 3) := by decide +kernel
theorem dX0_quotient_29 : decode cX0_quotient 29 = .ok (.iload_n 1, 1) := by decide +kernel
theorem dX0_quotient_30 : decode cX0_quotient 30 = .ok (.ifCond .ge 8, 3) := by decide +kernel
theorem dX0_quotient_33 : decode cX0_quotient 33 = .ok (.ldc 12, 2) := by decide +kernel
theorem dX0_quotient_35 : decode cX0_quotient 35 = .ok (.goto 4, 3) := by decide +kernel
theorem dX0_quotient_38 : decode cX0_quotient 38 = .ok (.iconst 0, 1) := by decide +kernel
theorem dX0_quotient_39 : decode cX0_quotient 39 = .ok (.ireturn, 1) := by decide +kernel
theorem dX0_quotient_40 : decode cX0_quotient 40 = .ok (.iload_n 0, 1) := by decide +kernel
theorem dX0_quotient_41 : decode cX0_quotient 41 = .ok (.i2f, 1) := by decide +kernel
theorem dX0_quotient_42 : decode cX0_quotient 42 = .ok (.iload_n 1, 1) := by decide +kernel
theorem dX0_quotient_43 : decode cX0_quotient 43 = .ok (.i2f, 1) := by decide +kernel
theorem dX0_quotient_44 : decode cX0_quotient 44 = .ok (.fdiv, 1) := by decide +kernel
theorem dX0_quotient_45 : decode cX0_quotient 45 = .ok (.invokestatic 13, 3) := by decide +kernel
theorem dX0_quotient_48 : decode cX0_quotient 48 = .ok (.ireturn, 1) := by decide +kernel
theorem dX0_isFinite_0 : decode cX0_isFinite 0 = .ok (.iload_n 0, 1) := by decide +kernel
theorem dX0_isFinite_1 : decode cX0_isFinite 1 = .ok (.ldc 10, 2) := by decide +kernel
theorem dX0_isFinite_3 : decode cX0_isFinite 3 = .ok (.iand, 1) := by decide +kernel
theorem dX0_isFinite_4 : decode cX0_isFinite 4 = .ok (.ldc 10, 2) := by decide +kernel
theorem dX0_isFinite_6 : decode cX0_isFinite 6 = .ok (.if_icmp .eq 7, 3) := by decide +kernel
theorem dX0_isFinite_9 : decode cX0_isFinite 9 = .ok (.iconst 1, 1) := by decide +kernel
theorem dX0_isFinite_10 : decode cX0_isFinite 10 = .ok (.goto 4, 3) := by decide +kernel
theorem dX0_isFinite_13 : decode cX0_isFinite 13 = .ok (.iconst 0, 1) := by decide +kernel
theorem dX0_isFinite_14 : decode cX0_isFinite 14 = .ok (.ireturn, 1) := by decide +kernel
theorem dX0_oddSum_0 : decode cX0_oddSum 0 = .ok (.iload_n 0, 1) := by decide +kernel
theorem dX0_oddSum_1 : decode cX0_oddSum 1 = .ok (.iload_n 1, 1) := by decide +kernel
theorem dX0_oddSum_2 : decode cX0_oddSum 2 = .ok (.if_icmp .ne 7, 3) := by decide +kernel
theorem dX0_oddSum_5 : decode cX0_oddSum 5 = .ok (.iload_n 0, 1) := by decide +kernel
theorem dX0_oddSum_6 : decode cX0_oddSum 6 = .ok (.goto 5, 3) := by decide +kernel
theorem dX0_oddSum_9 : decode cX0_oddSum 9 = .ok (.ldc 9, 2) := by decide +kernel
theorem dX0_oddSum_11 : decode cX0_oddSum 11 = .ok (.ireturn, 1) := by decide +kernel
theorem dX0_widened_0 : decode cX0_widened 0 = .ok (.iload_n 0, 1) := by decide +kernel
theorem dX0_widened_1 : decode cX0_widened 1 = .ok (.ldc 9, 2) := by decide +kernel
theorem dX0_widened_3 : decode cX0_widened 3 = .ok (.if_icmp .ne 9, 3) := by decide +kernel
theorem dX0_widened_6 : decode cX0_widened 6 = .ok (.ldc2_w 17, 3) := by decide +kernel
theorem dX0_widened_9 : decode cX0_widened 9 = .ok (.goto 16, 3) := by decide +kernel
theorem dX0_widened_12 : decode cX0_widened 12 = .ok (.iload_n 0, 1) := by decide +kernel
theorem dX0_widened_13 : decode cX0_widened 13 = .ok (.ifCond .ge 9, 3) := by decide +kernel
theorem dX0_widened_16 : decode cX0_widened 16 = .ok (.ldc2_w 19, 3) := by decide +kernel
theorem dX0_widened_19 : decode cX0_widened 19 = .ok (.goto 6, 3) := by decide +kernel
theorem dX0_widened_22 : decode cX0_widened 22 = .ok (.ldc2_w 21, 3) := by decide +kernel
theorem dX0_widened_25 : decode cX0_widened 25 = .ok (.lreturn, 1) := by decide +kernel
theorem dX0_rank_0 : decode cX0_rank 0 = .ok (.iload_n 0, 1) := by decide +kernel
theorem dX0_rank_1 : decode cX0_rank 1 = .ok (.ifCond .ge 10, 3) := by decide +kernel
theorem dX0_rank_4 : decode cX0_rank 4 = .ok (.iload_n 0, 1) := by decide +kernel
theorem dX0_rank_5 : decode cX0_rank 5 = .ok (.ldc 23, 2) := by decide +kernel
theorem dX0_rank_7 : decode cX0_rank 7 = .ok (.ixor, 1) := by decide +kernel
theorem dX0_rank_8 : decode cX0_rank 8 = .ok (.goto 4, 3) := by decide +kernel
theorem dX0_rank_11 : decode cX0_rank 11 = .ok (.iload_n 0, 1) := by decide +kernel
theorem dX0_rank_12 : decode cX0_rank 12 = .ok (.ireturn, 1) := by decide +kernel
theorem dX0_floatOf_0 : decode cX0_floatOf 0 = .ok (.iload_n 0, 1) := by decide +kernel
theorem dX0_floatOf_1 : decode cX0_floatOf 1 = .ok (.bipush 23, 2) := by decide +kernel
theorem dX0_floatOf_3 : decode cX0_floatOf 3 = .ok (.iushr, 1) := by decide +kernel
theorem dX0_floatOf_4 : decode cX0_floatOf 4 = .ok (.sipush 255, 3) := by decide +kernel
theorem dX0_floatOf_7 : decode cX0_floatOf 7 = .ok (.iand, 1) := by decide +kernel
theorem dX0_floatOf_8 : decode cX0_floatOf 8 = .ok (.istore_n 1, 1) := by decide +kernel
theorem dX0_floatOf_9 : decode cX0_floatOf 9 = .ok (.iload_n 1, 1) := by decide +kernel
theorem dX0_floatOf_10 : decode cX0_floatOf 10 = .ok (.ifCond .ne 5, 3) := by decide +kernel
theorem dX0_floatOf_13 : decode cX0_floatOf 13 = .ok (.fconst 0, 1) := by decide +kernel
theorem dX0_floatOf_14 : decode cX0_floatOf 14 = .ok (.freturn, 1) := by decide +kernel
theorem dX0_floatOf_15 : decode cX0_floatOf 15 = .ok (.iload_n 0, 1) := by decide +kernel
theorem dX0_floatOf_16 : decode cX0_floatOf 16 = .ok (.ldc 24, 2) := by decide +kernel
theorem dX0_floatOf_18 : decode cX0_floatOf 18 = .ok (.iand, 1) := by decide +kernel
theorem dX0_floatOf_19 : decode cX0_floatOf 19 = .ok (.ldc 25, 2) := by decide +kernel
theorem dX0_floatOf_21 : decode cX0_floatOf 21 = .ok (.ior, 1) := by decide +kernel
theorem dX0_floatOf_22 : decode cX0_floatOf 22 = .ok (.i2f, 1) := by decide +kernel
theorem dX0_floatOf_23 : decode cX0_floatOf 23 = .ok (.fstore_n 2, 1) := by decide +kernel
theorem dX0_floatOf_24 : decode cX0_floatOf 24 = .ok (.iload_n 1, 1) := by decide +kernel
theorem dX0_floatOf_25 : decode cX0_floatOf 25 = .ok (.istore_n 3, 1) := by decide +kernel
theorem dX0_floatOf_26 : decode cX0_floatOf 26 = .ok (.iload_n 3, 1) := by decide +kernel
theorem dX0_floatOf_27 : decode cX0_floatOf 27 = .ok (.sipush 150, 3) := by decide +kernel
theorem dX0_floatOf_30 : decode cX0_floatOf 30 = .ok (.if_icmp .ge 14, 3) := by decide +kernel
theorem dX0_floatOf_33 : decode cX0_floatOf 33 = .ok (.fload_n 2, 1) := by decide +kernel
theorem dX0_floatOf_34 : decode cX0_floatOf 34 = .ok (.ldc 26, 2) := by decide +kernel
theorem dX0_floatOf_36 : decode cX0_floatOf 36 = .ok (.fmul, 1) := by decide +kernel
theorem dX0_floatOf_37 : decode cX0_floatOf 37 = .ok (.fstore_n 2, 1) := by decide +kernel
theorem dX0_floatOf_38 : decode cX0_floatOf 38 = .ok (.iinc 3 1, 3) := by decide +kernel
theorem dX0_floatOf_41 : decode cX0_floatOf 41 = .ok (.goto (-15), 3) := by decide +kernel
theorem dX0_floatOf_44 : decode cX0_floatOf 44 = .ok (.sipush 150, 3) := by decide +kernel
theorem dX0_floatOf_47 : decode cX0_floatOf 47 = .ok (.istore_n 3, 1) := by decide +kernel
theorem dX0_floatOf_48 : decode cX0_floatOf 48 = .ok (.iload_n 3, 1) := by decide +kernel
theorem dX0_floatOf_49 : decode cX0_floatOf 49 = .ok (.iload_n 1, 1) := by decide +kernel
theorem dX0_floatOf_50 : decode cX0_floatOf 50 = .ok (.if_icmp .ge 13, 3) := by decide +kernel
theorem dX0_floatOf_53 : decode cX0_floatOf 53 = .ok (.fload_n 2, 1) := by decide +kernel
theorem dX0_floatOf_54 : decode cX0_floatOf 54 = .ok (.fconst 2, 1) := by decide +kernel
theorem dX0_floatOf_55 : decode cX0_floatOf 55 = .ok (.fmul, 1) := by decide +kernel
theorem dX0_floatOf_56 : decode cX0_floatOf 56 = .ok (.fstore_n 2, 1) := by decide +kernel
theorem dX0_floatOf_57 : decode cX0_floatOf 57 = .ok (.iinc 3 1, 3) := by decide +kernel
theorem dX0_floatOf_60 : decode cX0_floatOf 60 = .ok (.goto (-12), 3) := by decide +kernel
theorem dX0_floatOf_63 : decode cX0_floatOf 63 = .ok (.iload_n 0, 1) := by decide +kernel
theorem dX0_floatOf_64 : decode cX0_floatOf 64 = .ok (.ifCond .ge 8, 3) := by decide +kernel
theorem dX0_floatOf_67 : decode cX0_floatOf 67 = .ok (.fload_n 2, 1) := by decide +kernel
theorem dX0_floatOf_68 : decode cX0_floatOf 68 = .ok (.fneg, 1) := by decide +kernel
theorem dX0_floatOf_69 : decode cX0_floatOf 69 = .ok (.goto 4, 3) := by decide +kernel
theorem dX0_floatOf_72 : decode cX0_floatOf 72 = .ok (.fload_n 2, 1) := by decide +kernel
theorem dX0_floatOf_73 : decode cX0_floatOf 73 = .ok (.freturn, 1) := by decide +kernel
theorem dX0_bitsOfFloat_0 : decode cX0_bitsOfFloat 0 = .ok (.fload_n 0, 1) := by decide +kernel
theorem dX0_bitsOfFloat_1 : decode cX0_bitsOfFloat 1 = .ok (.fconst 0, 1) := by decide +kernel
theorem dX0_bitsOfFloat_2 : decode cX0_bitsOfFloat 2 = .ok (.fcmp .l, 1) := by decide +kernel
theorem dX0_bitsOfFloat_3 : decode cX0_bitsOfFloat 3 = .ok (.ifCond .ne 5, 3) := by decide +kernel
theorem dX0_bitsOfFloat_6 : decode cX0_bitsOfFloat 6 = .ok (.iconst 0, 1) := by decide +kernel
theorem dX0_bitsOfFloat_7 : decode cX0_bitsOfFloat 7 = .ok (.ireturn, 1) := by decide +kernel
theorem dX0_bitsOfFloat_8 : decode cX0_bitsOfFloat 8 = .ok (.fload_n 0, 1) := by decide +kernel
theorem dX0_bitsOfFloat_9 : decode cX0_bitsOfFloat 9 = .ok (.fconst 0, 1) := by decide +kernel
theorem dX0_bitsOfFloat_10 : decode cX0_bitsOfFloat 10 = .ok (.fcmp .g, 1) := by decide +kernel
theorem dX0_bitsOfFloat_11 : decode cX0_bitsOfFloat 11 = .ok (.ifCond .ge 9, 3) := by decide +kernel
theorem dX0_bitsOfFloat_14 : decode cX0_bitsOfFloat 14 = .ok (.fload_n 0, 1) := by decide +kernel
theorem dX0_bitsOfFloat_15 : decode cX0_bitsOfFloat 15 = .ok (.fneg, 1) := by decide +kernel
theorem dX0_bitsOfFloat_16 : decode cX0_bitsOfFloat 16 = .ok (.f2d, 1) := by decide +kernel
theorem dX0_bitsOfFloat_17 : decode cX0_bitsOfFloat 17 = .ok (.goto 5, 3) := by decide +kernel
theorem dX0_bitsOfFloat_20 : decode cX0_bitsOfFloat 20 = .ok (.fload_n 0, 1) := by decide +kernel
theorem dX0_bitsOfFloat_21 : decode cX0_bitsOfFloat 21 = .ok (.f2d, 1) := by decide +kernel
theorem dX0_bitsOfFloat_22 : decode cX0_bitsOfFloat 22 = .ok (.bipush 23, 2) := by decide +kernel
theorem dX0_bitsOfFloat_24 : decode cX0_bitsOfFloat 24 = .ok (.bipush 127, 2) := by decide +kernel
theorem dX0_bitsOfFloat_26 : decode cX0_bitsOfFloat 26 = .ok (.invokestatic 27, 3) := by decide +kernel
theorem dX0_bitsOfFloat_29 : decode cX0_bitsOfFloat 29 = .ok (.l2i, 1) := by decide +kernel
theorem dX0_bitsOfFloat_30 : decode cX0_bitsOfFloat 30 = .ok (.istore_n 1, 1) := by decide +kernel
theorem dX0_bitsOfFloat_31 : decode cX0_bitsOfFloat 31 = .ok (.fload_n 0, 1) := by decide +kernel
theorem dX0_bitsOfFloat_32 : decode cX0_bitsOfFloat 32 = .ok (.fconst 0, 1) := by decide +kernel
theorem dX0_bitsOfFloat_33 : decode cX0_bitsOfFloat 33 = .ok (.fcmp .g, 1) := by decide +kernel
theorem dX0_bitsOfFloat_34 : decode cX0_bitsOfFloat 34 = .ok (.ifCond .ge 10, 3) := by decide +kernel
theorem dX0_bitsOfFloat_37 : decode cX0_bitsOfFloat 37 = .ok (.iload_n 1, 1) := by decide +kernel
theorem dX0_bitsOfFloat_38 : decode cX0_bitsOfFloat 38 = .ok (.ldc 12, 2) := by decide +kernel
theorem dX0_bitsOfFloat_40 : decode cX0_bitsOfFloat 40 = .ok (.ior, 1) := by decide +kernel
theorem dX0_bitsOfFloat_41 : decode cX0_bitsOfFloat 41 = .ok (.goto 4, 3) := by decide +kernel
theorem dX0_bitsOfFloat_44 : decode cX0_bitsOfFloat 44 = .ok (.iload_n 1, 1) := by decide +kernel
theorem dX0_bitsOfFloat_45 : decode cX0_bitsOfFloat 45 = .ok (.ireturn, 1) := by decide +kernel
theorem dX0_bitsOfDouble_0 : decode cX0_bitsOfDouble 0 = .ok (.dload_n 0, 1) := by decide +kernel
theorem dX0_bitsOfDouble_1 : decode cX0_bitsOfDouble 1 = .ok (.dconst 0, 1) := by decide +kernel
theorem dX0_bitsOfDouble_2 : decode cX0_bitsOfDouble 2 = .ok (.dcmp .l, 1) := by decide +kernel
theorem dX0_bitsOfDouble_3 : decode cX0_bitsOfDouble 3 = .ok (.ifCond .ne 5, 3) := by decide +kernel
theorem dX0_bitsOfDouble_6 : decode cX0_bitsOfDouble 6 = .ok (.lconst 0, 1) := by decide +kernel
theorem dX0_bitsOfDouble_7 : decode cX0_bitsOfDouble 7 = .ok (.lreturn, 1) := by decide +kernel
theorem dX0_bitsOfDouble_8 : decode cX0_bitsOfDouble 8 = .ok (.dload_n 0, 1) := by decide +kernel
theorem dX0_bitsOfDouble_9 : decode cX0_bitsOfDouble 9 = .ok (.dconst 0, 1) := by decide +kernel
theorem dX0_bitsOfDouble_10 : decode cX0_bitsOfDouble 10 = .ok (.dcmp .g, 1) := by decide +kernel
theorem dX0_bitsOfDouble_11 : decode cX0_bitsOfDouble 11 = .ok (.ifCond .ge 8, 3) := by decide +kernel
theorem dX0_bitsOfDouble_14 : decode cX0_bitsOfDouble 14 = .ok (.dload_n 0, 1) := by decide +kernel
theorem dX0_bitsOfDouble_15 : decode cX0_bitsOfDouble 15 = .ok (.dneg, 1) := by decide +kernel
theorem dX0_bitsOfDouble_16 : decode cX0_bitsOfDouble 16 = .ok (.goto 4, 3) := by decide +kernel
theorem dX0_bitsOfDouble_19 : decode cX0_bitsOfDouble 19 = .ok (.dload_n 0, 1) := by decide +kernel
theorem dX0_bitsOfDouble_20 : decode cX0_bitsOfDouble 20 = .ok (.bipush 52, 2) := by decide +kernel
theorem dX0_bitsOfDouble_22 : decode cX0_bitsOfDouble 22 = .ok (.sipush 1023, 3) := by decide +kernel
theorem dX0_bitsOfDouble_25 : decode cX0_bitsOfDouble 25 = .ok (.invokestatic 27, 3) := by decide +kernel
theorem dX0_bitsOfDouble_28 : decode cX0_bitsOfDouble 28 = .ok (.lstore_n 2, 1) := by decide +kernel
theorem dX0_bitsOfDouble_29 : decode cX0_bitsOfDouble 29 = .ok (.dload_n 0, 1) := by decide +kernel
theorem dX0_bitsOfDouble_30 : decode cX0_bitsOfDouble 30 = .ok (.dconst 0, 1) := by decide +kernel
theorem dX0_bitsOfDouble_31 : decode cX0_bitsOfDouble 31 = .ok (.dcmp .g, 1) := by decide +kernel
theorem dX0_bitsOfDouble_32 : decode cX0_bitsOfDouble 32 = .ok (.ifCond .ge 11, 3) := by decide +kernel
theorem dX0_bitsOfDouble_35 : decode cX0_bitsOfDouble 35 = .ok (.lload_n 2, 1) := by decide +kernel
theorem dX0_bitsOfDouble_36 : decode cX0_bitsOfDouble 36 = .ok (.ldc2_w 33, 3) := by decide +kernel
theorem dX0_bitsOfDouble_39 : decode cX0_bitsOfDouble 39 = .ok (.lor, 1) := by decide +kernel
theorem dX0_bitsOfDouble_40 : decode cX0_bitsOfDouble 40 = .ok (.goto 4, 3) := by decide +kernel
theorem dX0_bitsOfDouble_43 : decode cX0_bitsOfDouble 43 = .ok (.lload_n 2, 1) := by decide +kernel
theorem dX0_bitsOfDouble_44 : decode cX0_bitsOfDouble 44 = .ok (.lreturn, 1) := by decide +kernel
theorem dX0_packed_0 : decode cX0_packed 0 = .ok (.dload_n 0, 1) := by decide +kernel
theorem dX0_packed_1 : decode cX0_packed 1 = .ok (.dstore 4, 2) := by decide +kernel
theorem dX0_packed_3 : decode cX0_packed 3 = .ok (.iload_n 3, 1) := by decide +kernel
theorem dX0_packed_4 : decode cX0_packed 4 = .ok (.istore 6, 2) := by decide +kernel
theorem dX0_packed_6 : decode cX0_packed 6 = .ok (.iconst 0, 1) := by decide +kernel
theorem dX0_packed_7 : decode cX0_packed 7 = .ok (.istore 7, 2) := by decide +kernel
theorem dX0_packed_9 : decode cX0_packed 9 = .ok (.iload 7, 2) := by decide +kernel
theorem dX0_packed_11 : decode cX0_packed 11 = .ok (.sipush 1023, 3) := by decide +kernel
theorem dX0_packed_14 : decode cX0_packed 14 = .ok (.if_icmp .ge 29, 3) := by decide +kernel
theorem dX0_packed_17 : decode cX0_packed 17 = .ok (.dload 4, 2) := by decide +kernel
theorem dX0_packed_19 : decode cX0_packed 19 = .ok (.ldc2_w 35, 3) := by decide +kernel
theorem dX0_packed_22 : decode cX0_packed 22 = .ok (.dcmp .l, 1) := by decide +kernel
theorem dX0_packed_23 : decode cX0_packed 23 = .ok (.ifCond .lt 20, 3) := by decide +kernel
theorem dX0_packed_26 : decode cX0_packed 26 = .ok (.dload 4, 2) := by decide +kernel
theorem dX0_packed_28 : decode cX0_packed 28 = .ok (.ldc2_w 37, 3) := by decide +kernel
theorem dX0_packed_31 : decode cX0_packed 31 = .ok (.dmul, 1) := by decide +kernel
theorem dX0_packed_32 : decode cX0_packed 32 = .ok (.dstore 4, 2) := by decide +kernel
theorem dX0_packed_34 : decode cX0_packed 34 = .ok (.iinc 6 1, 3) := by decide +kernel
theorem dX0_packed_37 : decode cX0_packed 37 = .ok (.iinc 7 1, 3) := by decide +kernel
theorem dX0_packed_40 : decode cX0_packed 40 = .ok (.goto (-31), 3) := by decide +kernel
theorem dX0_packed_43 : decode cX0_packed 43 = .ok (.iconst 0, 1) := by decide +kernel
theorem dX0_packed_44 : decode cX0_packed 44 = .ok (.istore 7, 2) := by decide +kernel
theorem dX0_packed_46 : decode cX0_packed 46 = .ok (.iload 7, 2) := by decide +kernel
theorem dX0_packed_48 : decode cX0_packed 48 = .ok (.sipush 1023, 3) := by decide +kernel
theorem dX0_packed_51 : decode cX0_packed 51 = .ok (.if_icmp .ge 27, 3) := by decide +kernel
theorem dX0_packed_54 : decode cX0_packed 54 = .ok (.dload 4, 2) := by decide +kernel
theorem dX0_packed_56 : decode cX0_packed 56 = .ok (.dconst 1, 1) := by decide +kernel
theorem dX0_packed_57 : decode cX0_packed 57 = .ok (.dcmp .g, 1) := by decide +kernel
theorem dX0_packed_58 : decode cX0_packed 58 = .ok (.ifCond .ge 20, 3) := by decide +kernel
theorem dX0_packed_61 : decode cX0_packed 61 = .ok (.dload 4, 2) := by decide +kernel
theorem dX0_packed_63 : decode cX0_packed 63 = .ok (.ldc2_w 35, 3) := by decide +kernel
theorem dX0_packed_66 : decode cX0_packed 66 = .ok (.dmul, 1) := by decide +kernel
theorem dX0_packed_67 : decode cX0_packed 67 = .ok (.dstore 4, 2) := by decide +kernel
theorem dX0_packed_69 : decode cX0_packed 69 = .ok (.iinc 6 (-1), 3) := by decide +kernel
theorem dX0_packed_72 : decode cX0_packed 72 = .ok (.iinc 7 1, 3) := by decide +kernel
theorem dX0_packed_75 : decode cX0_packed 75 = .ok (.goto (-29), 3) := by decide +kernel
theorem dX0_packed_78 : decode cX0_packed 78 = .ok (.lconst 1, 1) := by decide +kernel
theorem dX0_packed_79 : decode cX0_packed 79 = .ok (.iload_n 2, 1) := by decide +kernel
theorem dX0_packed_80 : decode cX0_packed 80 = .ok (.lshl, 1) := by decide +kernel
theorem dX0_packed_81 : decode cX0_packed 81 = .ok (.lstore 7, 2) := by decide +kernel
theorem dX0_packed_83 : decode cX0_packed 83 = .ok (.iload 6, 2) := by decide +kernel
theorem dX0_packed_85 : decode cX0_packed 85 = .ok (.i2l, 1) := by decide +kernel
theorem dX0_packed_86 : decode cX0_packed 86 = .ok (.iload_n 2, 1) := by decide +kernel
theorem dX0_packed_87 : decode cX0_packed 87 = .ok (.lshl, 1) := by decide +kernel
theorem dX0_packed_88 : decode cX0_packed 88 = .ok (.dload 4, 2) := by decide +kernel
theorem dX0_packed_90 : decode cX0_packed 90 = .ok (.dconst 1, 1) := by decide +kernel
theorem dX0_packed_91 : decode cX0_packed 91 = .ok (.dsub, 1) := by decide +kernel
theorem dX0_packed_92 : decode cX0_packed 92 = .ok (.lload 7, 2) := by decide +kernel
theorem dX0_packed_94 : decode cX0_packed 94 = .ok (.l2d, 1) := by decide +kernel
theorem dX0_packed_95 : decode cX0_packed 95 = .ok (.dmul, 1) := by decide +kernel
theorem dX0_packed_96 : decode cX0_packed 96 = .ok (.d2l, 1) := by decide +kernel
theorem dX0_packed_97 : decode cX0_packed 97 = .ok (.lor, 1) := by decide +kernel
theorem dX0_packed_98 : decode cX0_packed 98 = .ok (.lreturn, 1) := by decide +kernel
theorem dX1_init_0 : decode cX1_init 0 = .ok (.aload_n 0, 1) := by decide +kernel
theorem dX1_init_1 : decode cX1_init 1 = .ok (.invokespecial 3, 3) := by decide +kernel
theorem dX1_init_4 : decode cX1_init 4 = .ok (.aload_n 0, 1) := by decide +kernel
theorem dX1_init_5 : decode cX1_init 5 = .ok (.iconst 4, 1) := by decide +kernel
theorem dX1_init_6 : decode cX1_init 6 = .ok (.newarray .boolean, 2) := by decide +kernel
theorem dX1_init_8 : decode cX1_init 8 = .ok (.putfield 9, 3) := by decide +kernel
theorem dX1_init_11 : decode cX1_init 11 = .ok (.aload_n 0, 1) := by decide +kernel
theorem dX1_init_12 : decode cX1_init 12 = .ok (.iconst 4, 1) := by decide +kernel
theorem dX1_init_13 : decode cX1_init 13 = .ok (.newarray .int, 2) := by decide +kernel
theorem dX1_init_15 : decode cX1_init 15 = .ok (.putfield 15, 3) := by decide +kernel
theorem dX1_init_18 : decode cX1_init 18 = .ok (.aload_n 0, 1) := by decide +kernel
theorem dX1_init_19 : decode cX1_init 19 = .ok (.iconst 4, 1) := by decide +kernel
theorem dX1_init_20 : decode cX1_init 20 = .ok (.newarray .int, 2) := by decide +kernel
theorem dX1_init_22 : decode cX1_init 22 = .ok (.putfield 19, 3) := by decide +kernel
theorem dX1_init_25 : decode cX1_init 25 = .ok (.aload_n 0, 1) := by decide +kernel
theorem dX1_init_26 : decode cX1_init 26 = .ok (.iconst 4, 1) := by decide +kernel
theorem dX1_init_27 : decode cX1_init 27 = .ok (.newarray .int, 2) := by decide +kernel
theorem dX1_init_29 : decode cX1_init 29 = .ok (.putfield 22, 3) := by decide +kernel
theorem dX1_init_32 : decode cX1_init 32 = .ok (.iconst 0, 1) := by decide +kernel
theorem dX1_init_33 : decode cX1_init 33 = .ok (.istore_n 1, 1) := by decide +kernel
theorem dX1_init_34 : decode cX1_init 34 = .ok (.iload_n 1, 1) := by decide +kernel
theorem dX1_init_35 : decode cX1_init 35 = .ok (.iconst 4, 1) := by decide +kernel
theorem dX1_init_36 : decode cX1_init 36 = .ok (.if_icmp .ge 17, 3) := by decide +kernel
theorem dX1_init_39 : decode cX1_init 39 = .ok (.aload_n 0, 1) := by decide +kernel
theorem dX1_init_40 : decode cX1_init 40 = .ok (.getfield 15, 3) := by decide +kernel
theorem dX1_init_43 : decode cX1_init 43 = .ok (.iload_n 1, 1) := by decide +kernel
theorem dX1_init_44 : decode cX1_init 44 = .ok (.bipush (-5), 2) := by decide +kernel
theorem dX1_init_46 : decode cX1_init 46 = .ok (.iastore, 1) := by decide +kernel
theorem dX1_init_47 : decode cX1_init 47 = .ok (.iinc 1 1, 3) := by decide +kernel
theorem dX1_init_50 : decode cX1_init 50 = .ok (.goto (-16), 3) := by decide +kernel
theorem dX1_init_53 : decode cX1_init 53 = .ok (.return_, 1) := by decide +kernel
theorem dX1_copyFrom_0 : decode cX1_copyFrom 0 = .ok (.iconst 0, 1) := by decide +kernel
theorem dX1_copyFrom_1 : decode cX1_copyFrom 1 = .ok (.istore_n 2, 1) := by decide +kernel
theorem dX1_copyFrom_2 : decode cX1_copyFrom 2 = .ok (.iload_n 2, 1) := by decide +kernel
theorem dX1_copyFrom_3 : decode cX1_copyFrom 3 = .ok (.iconst 4, 1) := by decide +kernel
theorem dX1_copyFrom_4 : decode cX1_copyFrom 4 = .ok (.if_icmp .ge 21, 3) := by decide +kernel
theorem dX1_copyFrom_7 : decode cX1_copyFrom 7 = .ok (.aload_n 0, 1) := by decide +kernel
theorem dX1_copyFrom_8 : decode cX1_copyFrom 8 = .ok (.getfield 9, 3) := by decide +kernel
theorem dX1_copyFrom_11 : decode cX1_copyFrom 11 = .ok (.iload_n 2, 1) := by decide +kernel
theorem dX1_copyFrom_12 : decode cX1_copyFrom 12 = .ok (.aload_n 1, 1) := by decide +kernel
theorem dX1_copyFrom_13 : decode cX1_copyFrom 13 = .ok (.getfield 9, 3) := by decide +kernel
theorem dX1_copyFrom_16 : decode cX1_copyFrom 16 = .ok (.iload_n 2, 1) := by decide +kernel
theorem dX1_copyFrom_17 : decode cX1_copyFrom 17 = .ok (.baload, 1) := by decide +kernel
theorem dX1_copyFrom_18 : decode cX1_copyFrom 18 = .ok (.bastore, 1) := by decide +kernel
theorem dX1_copyFrom_19 : decode cX1_copyFrom 19 = .ok (.iinc 2 1, 3) := by decide +kernel
theorem dX1_copyFrom_22 : decode cX1_copyFrom 22 = .ok (.goto (-20), 3) := by decide +kernel
theorem dX1_copyFrom_25 : decode cX1_copyFrom 25 = .ok (.aload_n 1, 1) := by decide +kernel
theorem dX1_copyFrom_26 : decode cX1_copyFrom 26 = .ok (.getfield 15, 3) := by decide +kernel
theorem dX1_copyFrom_29 : decode cX1_copyFrom 29 = .ok (.iconst 0, 1) := by decide +kernel
theorem dX1_copyFrom_30 : decode cX1_copyFrom 30 = .ok (.aload_n 0, 1) := by decide +kernel
theorem dX1_copyFrom_31 : decode cX1_copyFrom 31 = .ok (.getfield 15, 3) := by decide +kernel
theorem dX1_copyFrom_34 : decode cX1_copyFrom 34 = .ok (.iconst 0, 1) := by decide +kernel
theorem dX1_copyFrom_35 : decode cX1_copyFrom 35 = .ok (.iconst 4, 1) := by decide +kernel
theorem dX1_copyFrom_36 : decode cX1_copyFrom 36 = .ok (.invokestatic 25, 3) := by decide +kernel
theorem dX1_copyFrom_39 : decode cX1_copyFrom 39 = .ok (.aload_n 1, 1) := by decide +kernel
theorem dX1_copyFrom_40 : decode cX1_copyFrom 40 = .ok (.getfield 22, 3) := by decide +kernel
theorem dX1_copyFrom_43 : decode cX1_copyFrom 43 = .ok (.iconst 0, 1) := by decide +kernel
theorem dX1_copyFrom_44 : decode cX1_copyFrom 44 = .ok (.aload_n 0, 1) := by decide +kernel
theorem dX1_copyFrom_45 : decode cX1_copyFrom 45 = .ok (.getfield 22, 3) := by decide +kernel
theorem dX1_copyFrom_48 : decode cX1_copyFrom 48 = .ok (.iconst 0, 1) := by decide +kernel
theorem dX1_copyFrom_49 : decode cX1_copyFrom 49 = .ok (.iconst 4, 1) := by decide +kernel
theorem dX1_copyFrom_50 : decode cX1_copyFrom 50 = .ok (.invokestatic 25, 3) := by decide +kernel
theorem dX1_copyFrom_53 : decode cX1_copyFrom 53 = .ok (.aload_n 0, 1) := by decide +kernel
theorem dX1_copyFrom_54 : decode cX1_copyFrom 54 = .ok (.aload_n 1, 1) := by decide +kernel
theorem dX1_copyFrom_55 : decode cX1_copyFrom 55 = .ok (.getfield 31, 3) := by decide +kernel
theorem dX1_copyFrom_58 : decode cX1_copyFrom 58 = .ok (.putfield 31, 3) := by decide +kernel
theorem dX1_copyFrom_61 : decode cX1_copyFrom 61 = .ok (.return_, 1) := by decide +kernel
theorem dX1_membersIn_0 : decode cX1_membersIn 0 = .ok (.aload_n 0, 1) := by decide +kernel
theorem dX1_membersIn_1 : decode cX1_membersIn 1 = .ok (.invokevirtual 35, 3) := by decide +kernel
theorem dX1_membersIn_4 : decode cX1_membersIn 4 = .ok (.invokestatic 39, 3) := by decide +kernel
theorem dX1_membersIn_7 : decode cX1_membersIn 7 = .ok (.ireturn, 1) := by decide +kernel
theorem dX1_inBits_0 : decode cX1_inBits 0 = .ok (.iconst 0, 1) := by decide +kernel
theorem dX1_inBits_1 : decode cX1_inBits 1 = .ok (.istore_n 1, 1) := by decide +kernel
theorem dX1_inBits_2 : decode cX1_inBits 2 = .ok (.iconst 0, 1) := by decide +kernel
theorem dX1_inBits_3 : decode cX1_inBits 3 = .ok (.istore_n 2, 1) := by decide +kernel
theorem dX1_inBits_4 : decode cX1_inBits 4 = .ok (.iload_n 2, 1) := by decide +kernel
theorem dX1_inBits_5 : decode cX1_inBits 5 = .ok (.iconst 4, 1) := by decide +kernel
theorem dX1_inBits_6 : decode cX1_inBits 6 = .ok (.if_icmp .ge 24, 3) := by decide +kernel
theorem dX1_inBits_9 : decode cX1_inBits 9 = .ok (.aload_n 0, 1) := by decide +kernel
theorem dX1_inBits_10 : decode cX1_inBits 10 = .ok (.getfield 9, 3) := by decide +kernel
theorem dX1_inBits_13 : decode cX1_inBits 13 = .ok (.iload_n 2, 1) := by decide +kernel
theorem dX1_inBits_14 : decode cX1_inBits 14 = .ok (.baload, 1) := by decide +kernel
theorem dX1_inBits_15 : decode cX1_inBits 15 = .ok (.ifCond .eq 9, 3) := by decide +kernel
theorem dX1_inBits_18 : decode cX1_inBits 18 = .ok (.iload_n 1, 1) := by decide +kernel
theorem dX1_inBits_19 : decode cX1_inBits 19 = .ok (.iconst 1, 1) := by decide +kernel
theorem dX1_inBits_20 : decode cX1_inBits 20 = .ok (.iload_n 2, 1) := by decide +kernel
theorem dX1_inBits_21 : decode cX1_inBits 21 = .ok (.ishl, 1) := by decide +kernel
theorem dX1_inBits_22 : decode cX1_inBits 22 = .ok (.ior, 1) := by decide +kernel
theorem dX1_inBits_23 : decode cX1_inBits 23 = .ok (.istore_n 1, 1) := by decide +kernel
theorem dX1_inBits_24 : decode cX1_inBits 24 = .ok (.iinc 2 1, 3) := by decide +kernel
theorem dX1_inBits_27 : decode cX1_inBits 27 = .ok (.goto (-23), 3) := by decide +kernel
theorem dX1_inBits_30 : decode cX1_inBits 30 = .ok (.iload_n 1, 1) := by decide +kernel
theorem dX1_inBits_31 : decode cX1_inBits 31 = .ok (.ireturn, 1) := by decide +kernel
theorem dX1_logBits_0 : decode cX1_logBits 0 = .ok (.iconst 0, 1) := by decide +kernel
theorem dX1_logBits_1 : decode cX1_logBits 1 = .ok (.istore_n 2, 1) := by decide +kernel
theorem dX1_logBits_2 : decode cX1_logBits 2 = .ok (.iconst 0, 1) := by decide +kernel
theorem dX1_logBits_3 : decode cX1_logBits 3 = .ok (.istore_n 3, 1) := by decide +kernel
theorem dX1_logBits_4 : decode cX1_logBits 4 = .ok (.iload_n 3, 1) := by decide +kernel
theorem dX1_logBits_5 : decode cX1_logBits 5 = .ok (.iconst 4, 1) := by decide +kernel
theorem dX1_logBits_6 : decode cX1_logBits 6 = .ok (.if_icmp .ge 25, 3) := by decide +kernel
theorem dX1_logBits_9 : decode cX1_logBits 9 = .ok (.aload_n 0, 1) := by decide +kernel
theorem dX1_logBits_10 : decode cX1_logBits 10 = .ok (.getfield 15, 3) := by decide +kernel
theorem dX1_logBits_13 : decode cX1_logBits 13 = .ok (.iload_n 3, 1) := by decide +kernel
theorem dX1_logBits_14 : decode cX1_logBits 14 = .ok (.iaload, 1) := by decide +kernel
theorem dX1_logBits_15 : decode cX1_logBits 15 = .ok (.iload_n 1, 1) := by decide +kernel
theorem dX1_logBits_16 : decode cX1_logBits 16 = .ok (.if_icmp .ne 9, 3) := by decide +kernel
theorem dX1_logBits_19 : decode cX1_logBits 19 = .ok (.iload_n 2, 1) := by decide +kernel
theorem dX1_logBits_20 : decode cX1_logBits 20 = .ok (.iconst 1, 1) := by decide +kernel
theorem dX1_logBits_21 : decode cX1_logBits 21 = .ok (.iload_n 3, 1) := by decide +kernel
theorem dX1_logBits_22 : decode cX1_logBits 22 = .ok (.ishl, 1) := by decide +kernel
theorem dX1_logBits_23 : decode cX1_logBits 23 = .ok (.ior, 1) := by decide +kernel
theorem dX1_logBits_24 : decode cX1_logBits 24 = .ok (.istore_n 2, 1) := by decide +kernel
theorem dX1_logBits_25 : decode cX1_logBits 25 = .ok (.iinc 3 1, 3) := by decide +kernel
theorem dX1_logBits_28 : decode cX1_logBits 28 = .ok (.goto (-24), 3) := by decide +kernel
theorem dX1_logBits_31 : decode cX1_logBits 31 = .ok (.iload_n 2, 1) := by decide +kernel
theorem dX1_logBits_32 : decode cX1_logBits 32 = .ok (.ireturn, 1) := by decide +kernel
theorem dX1_logsOf_0 : decode cX1_logsOf 0 = .ok (.aload_n 0, 1) := by decide +kernel
theorem dX1_logsOf_1 : decode cX1_logsOf 1 = .ok (.iload_n 1, 1) := by decide +kernel
theorem dX1_logsOf_2 : decode cX1_logsOf 2 = .ok (.invokevirtual 45, 3) := by decide +kernel
theorem dX1_logsOf_5 : decode cX1_logsOf 5 = .ok (.invokestatic 39, 3) := by decide +kernel
theorem dX1_logsOf_8 : decode cX1_logsOf 8 = .ok (.ireturn, 1) := by decide +kernel
theorem dX1_lag_0 : decode cX1_lag 0 = .ok (.iconst 0, 1) := by decide +kernel
theorem dX1_lag_1 : decode cX1_lag 1 = .ok (.istore_n 3, 1) := by decide +kernel
theorem dX1_lag_2 : decode cX1_lag 2 = .ok (.iconst 0, 1) := by decide +kernel
theorem dX1_lag_3 : decode cX1_lag 3 = .ok (.istore 4, 2) := by decide +kernel
theorem dX1_lag_5 : decode cX1_lag 5 = .ok (.iload 4, 2) := by decide +kernel
theorem dX1_lag_7 : decode cX1_lag 7 = .ok (.iconst 4, 1) := by decide +kernel
theorem dX1_lag_8 : decode cX1_lag 8 = .ok (.if_icmp .ge 44, 3) := by decide +kernel
theorem dX1_lag_11 : decode cX1_lag 11 = .ok (.aload_n 0, 1) := by decide +kernel
theorem dX1_lag_12 : decode cX1_lag 12 = .ok (.getfield 15, 3) := by decide +kernel
theorem dX1_lag_15 : decode cX1_lag 15 = .ok (.iload 4, 2) := by decide +kernel
theorem dX1_lag_17 : decode cX1_lag 17 = .ok (.iaload, 1) := by decide +kernel
theorem dX1_lag_18 : decode cX1_lag 18 = .ok (.iload_n 1, 1) := by decide +kernel
theorem dX1_lag_19 : decode cX1_lag 19 = .ok (.if_icmp .ne 27, 3) := by decide +kernel
theorem dX1_lag_22 : decode cX1_lag 22 = .ok (.iload_n 3, 1) := by decide +kernel
theorem dX1_lag_23 : decode cX1_lag 23 = .ok (.aload_n 2, 1) := by decide +kernel
theorem dX1_lag_24 : decode cX1_lag 24 = .ok (.iload 4, 2) := by decide +kernel
theorem dX1_lag_26 : decode cX1_lag 26 = .ok (.aaload, 1) := by decide +kernel
theorem dX1_lag_27 : decode cX1_lag 27 = .ok (.aload_n 0, 1) := by decide +kernel
theorem dX1_lag_28 : decode cX1_lag 28 = .ok (.getfield 22, 3) := by decide +kernel
theorem dX1_lag_31 : decode cX1_lag 31 = .ok (.iload 4, 2) := by decide +kernel
theorem dX1_lag_33 : decode cX1_lag 33 = .ok (.iaload, 1) := by decide +kernel
theorem dX1_lag_34 : decode cX1_lag 34 = .ok (.aload_n 2, 1) := by decide +kernel
theorem dX1_lag_35 : decode cX1_lag 35 = .ok (.iload 4, 2) := by decide +kernel
theorem dX1_lag_37 : decode cX1_lag 37 = .ok (.aaload, 1) := by decide +kernel
theorem dX1_lag_38 : decode cX1_lag 38 = .ok (.getfield 48, 3) := by decide +kernel
theorem dX1_lag_41 : decode cX1_lag 41 = .ok (.invokevirtual 53, 3) := by decide +kernel
theorem dX1_lag_44 : decode cX1_lag 44 = .ok (.iadd, 1) := by decide +kernel
theorem dX1_lag_45 : decode cX1_lag 45 = .ok (.istore_n 3, 1) := by decide +kernel
theorem dX1_lag_46 : decode cX1_lag 46 = .ok (.iinc 4 1, 3) := by decide +kernel
theorem dX1_lag_49 : decode cX1_lag 49 = .ok (.goto (-44), 3) := by decide +kernel
theorem dX1_lag_52 : decode cX1_lag 52 = .ok (.iload_n 3, 1) := by decide +kernel
theorem dX1_lag_53 : decode cX1_lag 53 = .ok (.ireturn, 1) := by decide +kernel
theorem dX1_polled_0 : decode cX1_polled 0 = .ok (.iconst 0, 1) := by decide +kernel
theorem dX1_polled_1 : decode cX1_polled 1 = .ok (.istore_n 3, 1) := by decide +kernel
theorem dX1_polled_2 : decode cX1_polled 2 = .ok (.iload_n 3, 1) := by decide +kernel
theorem dX1_polled_3 : decode cX1_polled 3 = .ok (.iconst 4, 1) := by decide +kernel
theorem dX1_polled_4 : decode cX1_polled 4 = .ok (.if_icmp .ge 72, 3) := by decide +kernel
theorem dX1_polled_7 : decode cX1_polled 7 = .ok (.aload_n 0, 1) := by decide +kernel
theorem dX1_polled_8 : decode cX1_polled 8 = .ok (.getfield 15, 3) := by decide +kernel
theorem dX1_polled_11 : decode cX1_polled 11 = .ok (.iload_n 3, 1) := by decide +kernel
theorem dX1_polled_12 : decode cX1_polled 12 = .ok (.iaload, 1) := by decide +kernel
theorem dX1_polled_13 : decode cX1_polled 13 = .ok (.iload_n 1, 1) := by decide +kernel
theorem dX1_polled_14 : decode cX1_polled 14 = .ok (.if_icmp .ne 18, 3) := by decide +kernel
theorem dX1_polled_17 : decode cX1_polled 17 = .ok (.aload_n 2, 1) := by decide +kernel
theorem dX1_polled_18 : decode cX1_polled 18 = .ok (.iload_n 3, 1) := by decide +kernel
theorem dX1_polled_19 : decode cX1_polled 19 = .ok (.aaload, 1) := by decide +kernel
theorem dX1_polled_20 : decode cX1_polled 20 = .ok (.aload_n 0, 1) := by decide +kernel
theorem dX1_polled_21 : decode cX1_polled 21 = .ok (.getfield 22, 3) := by decide +kernel
theorem dX1_polled_24 : decode cX1_polled 24 = .ok (.iload_n 3, 1) := by decide +kernel
theorem dX1_polled_25 : decode cX1_polled 25 = .ok (.iaload, 1) := by decide +kernel
theorem dX1_polled_26 : decode cX1_polled 26 = .ok (.invokevirtual 57, 3) := by decide +kernel
theorem dX1_polled_29 : decode cX1_polled 29 = .ok (.goto 5, 3) := by decide +kernel
theorem dX1_polled_32 : decode cX1_polled 32 = .ok (.bipush (-5), 2) := by decide +kernel
theorem dX1_polled_34 : decode cX1_polled 34 = .ok (.istore 4, 2) := by decide +kernel
theorem dX1_polled_36 : decode cX1_polled 36 = .ok (.iload 4, 2) := by decide +kernel
theorem dX1_polled_38 : decode cX1_polled 38 = .ok (.ifCond .lt 32, 3) := by decide +kernel
theorem dX1_polled_41 : decode cX1_polled 41 = .ok (.aload_n 0, 1) := by decide +kernel
theorem dX1_polled_42 : decode cX1_polled 42 = .ok (.getfield 22, 3) := by decide +kernel
theorem dX1_polled_45 : decode cX1_polled 45 = .ok (.iload_n 3, 1) := by decide +kernel
theorem dX1_polled_46 : decode cX1_polled 46 = .ok (.iload 4, 2) := by decide +kernel
theorem dX1_polled_48 : decode cX1_polled 48 = .ok (.iconst 1, 1) := by decide +kernel
theorem dX1_polled_49 : decode cX1_polled 49 = .ok (.iadd, 1) := by decide +kernel
theorem dX1_polled_50 : decode cX1_polled 50 = .ok (.iastore, 1) := by decide +kernel
theorem dX1_polled_51 : decode cX1_polled 51 = .ok (.aload_n 0, 1) := by decide +kernel
theorem dX1_polled_52 : decode cX1_polled 52 = .ok (.dup, 1) := by decide +kernel
theorem dX1_polled_53 : decode cX1_polled 53 = .ok (.getfield 31, 3) := by decide +kernel
theorem dX1_polled_56 : decode cX1_polled 56 = .ok (.iconst 1, 1) := by decide +kernel
theorem dX1_polled_57 : decode cX1_polled 57 = .ok (.iadd, 1) := by decide +kernel
theorem dX1_polled_58 : decode cX1_polled 58 = .ok (.putfield 31, 3) := by decide +kernel
theorem dX1_polled_61 : decode cX1_polled 61 = .ok (.sipush 1000, 3) := by decide +kernel
theorem dX1_polled_64 : decode cX1_polled 64 = .ok (.iload_n 3, 1) := by decide +kernel
theorem dX1_polled_65 : decode cX1_polled 65 = .ok (.imul, 1) := by decide +kernel
theorem dX1_polled_66 : decode cX1_polled 66 = .ok (.iload 4, 2) := by decide +kernel
theorem dX1_polled_68 : decode cX1_polled 68 = .ok (.iadd, 1) := by decide +kernel
theorem dX1_polled_69 : decode cX1_polled 69 = .ok (.ireturn, 1) := by decide +kernel
theorem dX1_polled_70 : decode cX1_polled 70 = .ok (.iinc 3 1, 3) := by decide +kernel
theorem dX1_polled_73 : decode cX1_polled 73 = .ok (.goto (-71), 3) := by decide +kernel
theorem dX1_polled_76 : decode cX1_polled 76 = .ok (.bipush (-5), 2) := by decide +kernel
theorem dX1_polled_78 : decode cX1_polled 78 = .ok (.ireturn, 1) := by decide +kernel
theorem dX1_changed_0 : decode cX1_changed 0 = .ok (.aload_n 0, 1) := by decide +kernel
theorem dX1_changed_1 : decode cX1_changed 1 = .ok (.getfield 9, 3) := by decide +kernel
theorem dX1_changed_4 : decode cX1_changed 4 = .ok (.iload_n 1, 1) := by decide +kernel
theorem dX1_changed_5 : decode cX1_changed 5 = .ok (.iload_n 2, 1) := by decide +kernel
theorem dX1_changed_6 : decode cX1_changed 6 = .ok (.bastore, 1) := by decide +kernel
theorem dX1_changed_7 : decode cX1_changed 7 = .ok (.aload_n 0, 1) := by decide +kernel
theorem dX1_changed_8 : decode cX1_changed 8 = .ok (.getfield 15, 3) := by decide +kernel
theorem dX1_changed_11 : decode cX1_changed 11 = .ok (.iconst 0, 1) := by decide +kernel
theorem dX1_changed_12 : decode cX1_changed 12 = .ok (.aload_n 0, 1) := by decide +kernel
theorem dX1_changed_13 : decode cX1_changed 13 = .ok (.getfield 19, 3) := by decide +kernel
theorem dX1_changed_16 : decode cX1_changed 16 = .ok (.iconst 0, 1) := by decide +kernel
theorem dX1_changed_17 : decode cX1_changed 17 = .ok (.iconst 4, 1) := by decide +kernel
theorem dX1_changed_18 : decode cX1_changed 18 = .ok (.invokestatic 25, 3) := by decide +kernel
theorem dX1_changed_21 : decode cX1_changed 21 = .ok (.aload_n 0, 1) := by decide +kernel
theorem dX1_changed_22 : decode cX1_changed 22 = .ok (.invokevirtual 60, 3) := by decide +kernel
theorem dX1_changed_25 : decode cX1_changed 25 = .ok (.aload_n 0, 1) := by decide +kernel
theorem dX1_changed_26 : decode cX1_changed 26 = .ok (.invokevirtual 63, 3) := by decide +kernel
theorem dX1_changed_29 : decode cX1_changed 29 = .ok (.istore_n 3, 1) := by decide +kernel
theorem dX1_changed_30 : decode cX1_changed 30 = .ok (.iload_n 3, 1) := by decide +kernel
theorem dX1_changed_31 : decode cX1_changed 31 = .ok (.ifCond .le 24, 3) := by decide +kernel
theorem dX1_changed_34 : decode cX1_changed 34 = .ok (.iconst 4, 1) := by decide +kernel
theorem dX1_changed_35 : decode cX1_changed 35 = .ok (.iload_n 3, 1) := by decide +kernel
theorem dX1_changed_36 : decode cX1_changed 36 = .ok (.idiv, 1) := by decide +kernel
theorem dX1_changed_37 : decode cX1_changed 37 = .ok (.istore 4, 2) := by decide +kernel
theorem dX1_changed_39 : decode cX1_changed 39 = .ok (.aload_n 0, 1) := by decide +kernel
theorem dX1_changed_40 : decode cX1_changed 40 = .ok (.iload 4, 2) := by decide +kernel
theorem dX1_changed_42 : decode cX1_changed 42 = .ok (.iconst 4, 1) := by decide +kernel
theorem dX1_changed_43 : decode cX1_changed 43 = .ok (.iload 4, 2) := by decide +kernel
theorem dX1_changed_45 : decode cX1_changed 45 = .ok (.iload_n 3, 1) := by decide +kernel
theorem dX1_changed_46 : decode cX1_changed 46 = .ok (.imul, 1) := by decide +kernel
theorem dX1_changed_47 : decode cX1_changed 47 = .ok (.isub, 1) := by decide +kernel
theorem dX1_changed_48 : decode cX1_changed 48 = .ok (.invokevirtual 66, 3) := by decide +kernel
theorem dX1_changed_51 : decode cX1_changed 51 = .ok (.aload_n 0, 1) := by decide +kernel
theorem dX1_changed_52 : decode cX1_changed 52 = .ok (.invokevirtual 70, 3) := by decide +kernel
theorem dX1_changed_55 : decode cX1_changed 55 = .ok (.aload_n 0, 1) := by decide +kernel
theorem dX1_changed_56 : decode cX1_changed 56 = .ok (.invokevirtual 73, 3) := by decide +kernel
theorem dX1_changed_59 : decode cX1_changed 59 = .ok (.ireturn, 1) := by decide +kernel
theorem dX1_freeLogsOfAbsent_0 : decode cX1_freeLogsOfAbsent 0 = .ok (.iconst 0, 1) := by decide +kernel
theorem dX1_freeLogsOfAbsent_1 : decode cX1_freeLogsOfAbsent 1 = .ok (.istore_n 1, 1) := by decide +kernel
theorem dX1_freeLogsOfAbsent_2 : decode cX1_freeLogsOfAbsent 2 = .ok (.iload_n 1, 1) := by decide +kernel
theorem dX1_freeLogsOfAbsent_3 : decode cX1_freeLogsOfAbsent 3 = .ok (.iconst 4, 1) := by decide +kernel
theorem dX1_freeLogsOfAbsent_4 : decode cX1_freeLogsOfAbsent 4 = .ok (.if_icmp .ge 40, 3) := by decide +kernel
theorem dX1_freeLogsOfAbsent_7 : decode cX1_freeLogsOfAbsent 7 = .ok (.aload_n 0, 1) := by decide +kernel
theorem dX1_freeLogsOfAbsent_8 : decode cX1_freeLogsOfAbsent 8 = .ok (.getfield 15, 3) := by decide +kernel
theorem dX1_freeLogsOfAbsent_11 : decode cX1_freeLogsOfAbsent 11 = .ok (.iload_n 1, 1) := by decide +kernel
theorem dX1_freeLogsOfAbsent_12 : decode cX1_freeLogsOfAbsent 12 = .ok (.iaload, 1) := by decide +kernel
theorem dX1_freeLogsOfAbsent_13 : decode cX1_freeLogsOfAbsent 13 = .ok (.ifCond .lt 25, 3) := by decide +kernel
theorem dX1_freeLogsOfAbsent_16 : decode cX1_freeLogsOfAbsent 16 = .ok (.aload_n 0, 1) := by decide +kernel
theorem dX1_freeLogsOfAbsent_17 : decode cX1_freeLogsOfAbsent 17 = .ok (.getfield 9, 3) := by decide +kernel
theorem dX1_freeLogsOfAbsent_20 : decode cX1_freeLogsOfAbsent 20 = .ok (.aload_n 0, 1) := by decide +kernel
theorem dX1_freeLogsOfAbsent_21 : decode cX1_freeLogsOfAbsent 21 = .ok (.getfield 15, 3) := by decide +kernel
theorem dX1_freeLogsOfAbsent_24 : decode cX1_freeLogsOfAbsent 24 = .ok (.iload_n 1, 1) := by decide +kernel
theorem dX1_freeLogsOfAbsent_25 : decode cX1_freeLogsOfAbsent 25 = .ok (.iaload, 1) := by decide +kernel
theorem dX1_freeLogsOfAbsent_26 : decode cX1_freeLogsOfAbsent 26 = .ok (.baload, 1) := by decide +kernel
theorem dX1_freeLogsOfAbsent_27 : decode cX1_freeLogsOfAbsent 27 = .ok (.ifCond .ne 11, 3) := by decide +kernel
theorem dX1_freeLogsOfAbsent_30 : decode cX1_freeLogsOfAbsent 30 = .ok (.aload_n 0, 1) := by decide +kernel
theorem dX1_freeLogsOfAbsent_31 : decode cX1_freeLogsOfAbsent 31 = .ok (.getfield 15, 3) := by decide +kernel
theorem dX1_freeLogsOfAbsent_34 : decode cX1_freeLogsOfAbsent 34 = .ok (.iload_n 1, 1) := by decide +kernel
theorem dX1_freeLogsOfAbsent_35 : decode cX1_freeLogsOfAbsent 35 = .ok (.bipush (-5), 2) := by decide +kernel
theorem dX1_freeLogsOfAbsent_37 : decode cX1_freeLogsOfAbsent 37 = .ok (.iastore, 1) := by decide +kernel
theorem dX1_freeLogsOfAbsent_38 : decode cX1_freeLogsOfAbsent 38 = .ok (.iinc 1 1, 3) := by decide +kernel
theorem dX1_freeLogsOfAbsent_41 : decode cX1_freeLogsOfAbsent 41 = .ok (.goto (-39), 3) := by decide +kernel
theorem dX1_freeLogsOfAbsent_44 : decode cX1_freeLogsOfAbsent 44 = .ok (.return_, 1) := by decide +kernel
theorem dX1_freeLogsBeyond_0 : decode cX1_freeLogsBeyond 0 = .ok (.iconst 0, 1) := by decide +kernel
theorem dX1_freeLogsBeyond_1 : decode cX1_freeLogsBeyond 1 = .ok (.istore_n 3, 1) := by decide +kernel
theorem dX1_freeLogsBeyond_2 : decode cX1_freeLogsBeyond 2 = .ok (.iconst 0, 1) := by decide +kernel
theorem dX1_freeLogsBeyond_3 : decode cX1_freeLogsBeyond 3 = .ok (.istore 4, 2) := by decide +kernel
theorem dX1_freeLogsBeyond_5 : decode cX1_freeLogsBeyond 5 = .ok (.iload 4, 2) := by decide +kernel
theorem dX1_freeLogsBeyond_7 : decode cX1_freeLogsBeyond 7 = .ok (.iconst 4, 1) := by decide +kernel
theorem dX1_freeLogsBeyond_8 : decode cX1_freeLogsBeyond 8 = .ok (.if_icmp .ge 57, 3) := by decide +kernel
theorem dX1_freeLogsBeyond_11 : decode cX1_freeLogsBeyond 11 = .ok (.aload_n 0, 1) := by decide +kernel
theorem dX1_freeLogsBeyond_12 : decode cX1_freeLogsBeyond 12 = .ok (.iload 4, 2) := by decide +kernel
theorem dX1_freeLogsBeyond_14 : decode cX1_freeLogsBeyond 14 = .ok (.invokevirtual 76, 3) := by decide +kernel
theorem dX1_freeLogsBeyond_17 : decode cX1_freeLogsBeyond 17 = .ok (.iload_n 1, 1) := by decide +kernel
theorem dX1_freeLogsBeyond_18 : decode cX1_freeLogsBeyond 18 = .ok (.if_icmp .le 41, 3) := by decide +kernel
theorem dX1_freeLogsBeyond_21 : decode cX1_freeLogsBeyond 21 = .ok (.iload_n 3, 1) := by decide +kernel
theorem dX1_freeLogsBeyond_22 : decode cX1_freeLogsBeyond 22 = .ok (.iload_n 2, 1) := by decide +kernel
theorem dX1_freeLogsBeyond_23 : decode cX1_freeLogsBeyond 23 = .ok (.if_icmp .ge 7, 3) := by decide +kernel
theorem dX1_freeLogsBeyond_26 : decode cX1_freeLogsBeyond 26 = .ok (.iconst 1, 1) := by decide +kernel
theorem dX1_freeLogsBeyond_27 : decode cX1_freeLogsBeyond 27 = .ok (.goto 4, 3) := by decide +kernel
theorem dX1_freeLogsBeyond_30 : decode cX1_freeLogsBeyond 30 = .ok (.iconst 0, 1) := by decide +kernel
theorem dX1_freeLogsBeyond_31 : decode cX1_freeLogsBeyond 31 = .ok (.istore 5, 2) := by decide +kernel
theorem dX1_freeLogsBeyond_33 : decode cX1_freeLogsBeyond 33 = .ok (.iload 5, 2) := by decide +kernel
theorem dX1_freeLogsBeyond_35 : decode cX1_freeLogsBeyond 35 = .ok (.ifCond .eq 6, 3) := by decide +kernel
theorem dX1_freeLogsBeyond_38 : decode cX1_freeLogsBeyond 38 = .ok (.iinc 3 1, 3) := by decide +kernel
theorem dX1_freeLogsBeyond_41 : decode cX1_freeLogsBeyond 41 = .ok (.aload_n 0, 1) := by decide +kernel
theorem dX1_freeLogsBeyond_42 : decode cX1_freeLogsBeyond 42 = .ok (.iload 4, 2) := by decide +kernel
theorem dX1_freeLogsBeyond_44 : decode cX1_freeLogsBeyond 44 = .ok (.iload 5, 2) := by decide +kernel
theorem dX1_freeLogsBeyond_46 : decode cX1_freeLogsBeyond 46 = .ok (.ifCond .eq 9, 3) := by decide +kernel
theorem dX1_freeLogsBeyond_49 : decode cX1_freeLogsBeyond 49 = .ok (.iload_n 1, 1) := by decide +kernel
theorem dX1_freeLogsBeyond_50 : decode cX1_freeLogsBeyond 50 = .ok (.iconst 1, 1) := by decide +kernel
theorem dX1_freeLogsBeyond_51 : decode cX1_freeLogsBeyond 51 = .ok (.iadd, 1) := by decide +kernel
theorem dX1_freeLogsBeyond_52 : decode cX1_freeLogsBeyond 52 = .ok (.goto 4, 3) := by decide +kernel
theorem dX1_freeLogsBeyond_55 : decode cX1_freeLogsBeyond 55 = .ok (.iload_n 1, 1) := by decide +kernel
theorem dX1_freeLogsBeyond_56 : decode cX1_freeLogsBeyond 56 = .ok (.invokevirtual 79, 3) := by decide +kernel
theorem dX1_freeLogsBeyond_59 : decode cX1_freeLogsBeyond 59 = .ok (.iinc 4 1, 3) := by decide +kernel
theorem dX1_freeLogsBeyond_62 : decode cX1_freeLogsBeyond 62 = .ok (.goto (-57), 3) := by decide +kernel
theorem dX1_freeLogsBeyond_65 : decode cX1_freeLogsBeyond 65 = .ok (.return_, 1) := by decide +kernel
theorem dX1_freeAllButLeast_0 : decode cX1_freeAllButLeast 0 = .ok (.iconst 0, 1) := by decide +kernel
theorem dX1_freeAllButLeast_1 : decode cX1_freeAllButLeast 1 = .ok (.istore_n 3, 1) := by decide +kernel
theorem dX1_freeAllButLeast_2 : decode cX1_freeAllButLeast 2 = .ok (.iconst 0, 1) := by decide +kernel
theorem dX1_freeAllButLeast_3 : decode cX1_freeAllButLeast 3 = .ok (.istore 4, 2) := by decide +kernel
theorem dX1_freeAllButLeast_5 : decode cX1_freeAllButLeast 5 = .ok (.iload 4, 2) := by decide +kernel
theorem dX1_freeAllButLeast_7 : decode cX1_freeAllButLeast 7 = .ok (.iconst 4, 1) := by decide +kernel
theorem dX1_freeAllButLeast_8 : decode cX1_freeAllButLeast 8 = .ok (.if_icmp .ge 37, 3) := by decide +kernel
theorem dX1_freeAllButLeast_11 : decode cX1_freeAllButLeast 11 = .ok (.aload_n 0, 1) := by decide +kernel
theorem dX1_freeAllButLeast_12 : decode cX1_freeAllButLeast 12 = .ok (.getfield 15, 3) := by decide +kernel
theorem dX1_freeAllButLeast_15 : decode cX1_freeAllButLeast 15 = .ok (.iload 4, 2) := by decide +kernel
theorem dX1_freeAllButLeast_17 : decode cX1_freeAllButLeast 17 = .ok (.iaload, 1) := by decide +kernel
theorem dX1_freeAllButLeast_18 : decode cX1_freeAllButLeast 18 = .ok (.iload_n 1, 1) := by decide +kernel
theorem dX1_freeAllButLeast_19 : decode cX1_freeAllButLeast 19 = .ok (.if_icmp .ne 20, 3) := by decide +kernel
theorem dX1_freeAllButLeast_22 : decode cX1_freeAllButLeast 22 = .ok (.iinc 3 1, 3) := by decide +kernel
theorem dX1_freeAllButLeast_25 : decode cX1_freeAllButLeast 25 = .ok (.iload_n 3, 1) := by decide +kernel
theorem dX1_freeAllButLeast_26 : decode cX1_freeAllButLeast 26 = .ok (.iload_n 2, 1) := by decide +kernel
theorem dX1_freeAllButLeast_27 : decode cX1_freeAllButLeast 27 = .ok (.if_icmp .le 12, 3) := by decide +kernel
theorem dX1_freeAllButLeast_30 : decode cX1_freeAllButLeast 30 = .ok (.aload_n 0, 1) := by decide +kernel
theorem dX1_freeAllButLeast_31 : decode cX1_freeAllButLeast 31 = .ok (.getfield 15, 3) := by decide +kernel
theorem dX1_freeAllButLeast_34 : decode cX1_freeAllButLeast 34 = .ok (.iload 4, 2) := by decide +kernel
theorem dX1_freeAllButLeast_36 : decode cX1_freeAllButLeast 36 = .ok (.bipush (-5), 2) := by decide +kernel
theorem dX1_freeAllButLeast_38 : decode cX1_freeAllButLeast 38 = .ok (.iastore, 1) := by decide +kernel
theorem dX1_freeAllButLeast_39 : decode cX1_freeAllButLeast 39 = .ok (.iinc 4 1, 3) := by decide +kernel
theorem dX1_freeAllButLeast_42 : decode cX1_freeAllButLeast 42 = .ok (.goto (-37), 3) := by decide +kernel
theorem dX1_freeAllButLeast_45 : decode cX1_freeAllButLeast 45 = .ok (.return_, 1) := by decide +kernel
theorem dX1_giveFreeLogs_0 : decode cX1_giveFreeLogs 0 = .ok (.iconst 0, 1) := by decide +kernel
theorem dX1_giveFreeLogs_1 : decode cX1_giveFreeLogs 1 = .ok (.istore_n 1, 1) := by decide +kernel
theorem dX1_giveFreeLogs_2 : decode cX1_giveFreeLogs 2 = .ok (.iload_n 1, 1) := by decide +kernel
theorem dX1_giveFreeLogs_3 : decode cX1_giveFreeLogs 3 = .ok (.iconst 4, 1) := by decide +kernel
theorem dX1_giveFreeLogs_4 : decode cX1_giveFreeLogs 4 = .ok (.if_icmp .ge 30, 3) := by decide +kernel
theorem dX1_giveFreeLogs_7 : decode cX1_giveFreeLogs 7 = .ok (.aload_n 0, 1) := by decide +kernel
theorem dX1_giveFreeLogs_8 : decode cX1_giveFreeLogs 8 = .ok (.getfield 15, 3) := by decide +kernel
theorem dX1_giveFreeLogs_11 : decode cX1_giveFreeLogs 11 = .ok (.iload_n 1, 1) := by decide +kernel
theorem dX1_giveFreeLogs_12 : decode cX1_giveFreeLogs 12 = .ok (.iaload, 1) := by decide +kernel
theorem dX1_giveFreeLogs_13 : decode cX1_giveFreeLogs 13 = .ok (.bipush (-5), 2) := by decide +kernel
theorem dX1_giveFreeLogs_15 : decode cX1_giveFreeLogs 15 = .ok (.if_icmp .ne 13, 3) := by decide +kernel
theorem dX1_giveFreeLogs_18 : decode cX1_giveFreeLogs 18 = .ok (.aload_n 0, 1) := by decide +kernel
theorem dX1_giveFreeLogs_19 : decode cX1_giveFreeLogs 19 = .ok (.getfield 15, 3) := by decide +kernel
theorem dX1_giveFreeLogs_22 : decode cX1_giveFreeLogs 22 = .ok (.iload_n 1, 1) := by decide +kernel
theorem dX1_giveFreeLogs_23 : decode cX1_giveFreeLogs 23 = .ok (.aload_n 0, 1) := by decide +kernel
theorem dX1_giveFreeLogs_24 : decode cX1_giveFreeLogs 24 = .ok (.invokevirtual 82, 3) := by decide +kernel
theorem dX1_giveFreeLogs_27 : decode cX1_giveFreeLogs 27 = .ok (.iastore, 1) := by decide +kernel
theorem dX1_giveFreeLogs_28 : decode cX1_giveFreeLogs 28 = .ok (.iinc 1 1, 3) := by decide +kernel
theorem dX1_giveFreeLogs_31 : decode cX1_giveFreeLogs 31 = .ok (.goto (-29), 3) := by decide +kernel
theorem dX1_giveFreeLogs_34 : decode cX1_giveFreeLogs 34 = .ok (.return_, 1) := by decide +kernel
theorem dX1_leastLaden_0 : decode cX1_leastLaden 0 = .ok (.bipush (-5), 2) := by decide +kernel
theorem dX1_leastLaden_2 : decode cX1_leastLaden 2 = .ok (.istore_n 1, 1) := by decide +kernel
theorem dX1_leastLaden_3 : decode cX1_leastLaden 3 = .ok (.iconst 0, 1) := by decide +kernel
theorem dX1_leastLaden_4 : decode cX1_leastLaden 4 = .ok (.istore_n 2, 1) := by decide +kernel
theorem dX1_leastLaden_5 : decode cX1_leastLaden 5 = .ok (.iload_n 2, 1) := by decide +kernel
theorem dX1_leastLaden_6 : decode cX1_leastLaden 6 = .ok (.iconst 4, 1) := by decide +kernel
theorem dX1_leastLaden_7 : decode cX1_leastLaden 7 = .ok (.if_icmp .ge 39, 3) := by decide +kernel
theorem dX1_leastLaden_10 : decode cX1_leastLaden 10 = .ok (.aload_n 0, 1) := by decide +kernel
theorem dX1_leastLaden_11 : decode cX1_leastLaden 11 = .ok (.getfield 9, 3) := by decide +kernel
theorem dX1_leastLaden_14 : decode cX1_leastLaden 14 = .ok (.iload_n 2, 1) := by decide +kernel
theorem dX1_leastLaden_15 : decode cX1_leastLaden 15 = .ok (.baload, 1) := by decide +kernel
theorem dX1_leastLaden_16 : decode cX1_leastLaden 16 = .ok (.ifCond .eq 24, 3) := by decide +kernel
theorem dX1_leastLaden_19 : decode cX1_leastLaden 19 = .ok (.iload_n 1, 1) := by decide +kernel
theorem dX1_leastLaden_20 : decode cX1_leastLaden 20 = .ok (.bipush (-5), 2) := by decide +kernel
theorem dX1_leastLaden_22 : decode cX1_leastLaden 22 = .ok (.if_icmp .eq 16, 3) := by decide +kernel
theorem dX1_leastLaden_25 : decode cX1_leastLaden 25 = .ok (.aload_n 0, 1) := by decide +kernel
theorem dX1_leastLaden_26 : decode cX1_leastLaden 26 = .ok (.iload_n 2, 1) := by decide +kernel
theorem dX1_leastLaden_27 : decode cX1_leastLaden 27 = .ok (.invokevirtual 76, 3) := by decide +kernel
theorem dX1_leastLaden_30 : decode cX1_leastLaden 30 = .ok (.aload_n 0, 1) := by decide +kernel
theorem dX1_leastLaden_31 : decode cX1_leastLaden 31 = .ok (.iload_n 1, 1) := by decide +kernel
theorem dX1_leastLaden_32 : decode cX1_leastLaden 32 = .ok (.invokevirtual 76, 3) := by decide +kernel
theorem dX1_leastLaden_35 : decode cX1_leastLaden 35 = .ok (.if_icmp .ge 5, 3) := by decide +kernel
theorem dX1_leastLaden_38 : decode cX1_leastLaden 38 = .ok (.iload_n 2, 1) := by decide +kernel
theorem dX1_leastLaden_39 : decode cX1_leastLaden 39 = .ok (.istore_n 1, 1) := by decide +kernel
theorem dX1_leastLaden_40 : decode cX1_leastLaden 40 = .ok (.iinc 2 1, 3) := by decide +kernel
theorem dX1_leastLaden_43 : decode cX1_leastLaden 43 = .ok (.goto (-38), 3) := by decide +kernel
theorem dX1_leastLaden_46 : decode cX1_leastLaden 46 = .ok (.iload_n 1, 1) := by decide +kernel
theorem dX1_leastLaden_47 : decode cX1_leastLaden 47 = .ok (.ireturn, 1) := by decide +kernel
theorem dX1_moves_0 : decode cX1_moves 0 = .ok (.iconst 0, 1) := by decide +kernel
theorem dX1_moves_1 : decode cX1_moves 1 = .ok (.istore_n 1, 1) := by decide +kernel
theorem dX1_moves_2 : decode cX1_moves 2 = .ok (.iconst 0, 1) := by decide +kernel
theorem dX1_moves_3 : decode cX1_moves 3 = .ok (.istore_n 2, 1) := by decide +kernel
theorem dX1_moves_4 : decode cX1_moves 4 = .ok (.iload_n 2, 1) := by decide +kernel
theorem dX1_moves_5 : decode cX1_moves 5 = .ok (.iconst 4, 1) := by decide +kernel
theorem dX1_moves_6 : decode cX1_moves 6 = .ok (.if_icmp .ge 27, 3) := by decide +kernel
theorem dX1_moves_9 : decode cX1_moves 9 = .ok (.aload_n 0, 1) := by decide +kernel
theorem dX1_moves_10 : decode cX1_moves 10 = .ok (.getfield 15, 3) := by decide +kernel
theorem dX1_moves_13 : decode cX1_moves 13 = .ok (.iload_n 2, 1) := by decide +kernel
theorem dX1_moves_14 : decode cX1_moves 14 = .ok (.iaload, 1) := by decide +kernel
theorem dX1_moves_15 : decode cX1_moves 15 = .ok (.aload_n 0, 1) := by decide +kernel
theorem dX1_moves_16 : decode cX1_moves 16 = .ok (.getfield 19, 3) := by decide +kernel
theorem dX1_moves_19 : decode cX1_moves 19 = .ok (.iload_n 2, 1) := by decide +kernel
theorem dX1_moves_20 : decode cX1_moves 20 = .ok (.iaload, 1) := by decide +kernel
theorem dX1_moves_21 : decode cX1_moves 21 = .ok (.if_icmp .eq 6, 3) := by decide +kernel
theorem dX1_moves_24 : decode cX1_moves 24 = .ok (.iinc 1 1, 3) := by decide +kernel
theorem dX1_moves_27 : decode cX1_moves 27 = .ok (.iinc 2 1, 3) := by decide +kernel
theorem dX1_moves_30 : decode cX1_moves 30 = .ok (.goto (-26), 3) := by decide +kernel
theorem dX1_moves_33 : decode cX1_moves 33 = .ok (.iload_n 1, 1) := by decide +kernel
theorem dX1_moves_34 : decode cX1_moves 34 = .ok (.ireturn, 1) := by decide +kernel
theorem dX2_init_0 : decode cX2_init 0 = .ok (.aload_n 0, 1) := by decide +kernel
theorem dX2_init_1 : decode cX2_init 1 = .ok (.invokespecial 3, 3) := by decide +kernel
theorem dX2_init_4 : decode cX2_init 4 = .ok (.aload_n 0, 1) := by decide +kernel
theorem dX2_init_5 : decode cX2_init 5 = .ok (.bipush 60, 2) := by decide +kernel
theorem dX2_init_7 : decode cX2_init 7 = .ok (.newarray .int, 2) := by decide +kernel
theorem dX2_init_9 : decode cX2_init 9 = .ok (.putfield 9, 3) := by decide +kernel
theorem dX2_init_12 : decode cX2_init 12 = .ok (.aload_n 0, 1) := by decide +kernel
theorem dX2_init_13 : decode cX2_init 13 = .ok (.bipush 60, 2) := by decide +kernel
theorem dX2_init_15 : decode cX2_init 15 = .ok (.newarray .int, 2) := by decide +kernel
theorem dX2_init_17 : decode cX2_init 17 = .ok (.putfield 15, 3) := by decide +kernel
theorem dX2_init_20 : decode cX2_init 20 = .ok (.aload_n 0, 1) := by decide +kernel
theorem dX2_init_21 : decode cX2_init 21 = .ok (.bipush 60, 2) := by decide +kernel
theorem dX2_init_23 : decode cX2_init 23 = .ok (.newarray .int, 2) := by decide +kernel
theorem dX2_init_25 : decode cX2_init 25 = .ok (.putfield 18, 3) := by decide +kernel
theorem dX2_init_28 : decode cX2_init 28 = .ok (.aload_n 0, 1) := by decide +kernel
theorem dX2_init_29 : decode cX2_init 29 = .ok (.bipush 60, 2) := by decide +kernel
theorem dX2_init_31 : decode cX2_init 31 = .ok (.newarray .int, 2) := by decide +kernel
theorem dX2_init_33 : decode cX2_init 33 = .ok (.putfield 21, 3) := by decide +kernel
theorem dX2_init_36 : decode cX2_init 36 = .ok (.return_, 1) := by decide +kernel
theorem dX2_filled_0 : decode cX2_filled 0 = .ok (.aload_n 0, 1) := by decide +kernel
theorem dX2_filled_1 : decode cX2_filled 1 = .ok (.iconst 0, 1) := by decide +kernel
theorem dX2_filled_2 : decode cX2_filled 2 = .ok (.putfield 24, 3) := by decide +kernel
theorem dX2_filled_5 : decode cX2_filled 5 = .ok (.iconst 0, 1) := by decide +kernel
theorem dX2_filled_6 : decode cX2_filled 6 = .ok (.istore 4, 2) := by decide +kernel
theorem dX2_filled_8 : decode cX2_filled 8 = .ok (.iload 4, 2) := by decide +kernel
theorem dX2_filled_10 : decode cX2_filled 10 = .ok (.aload_n 1, 1) := by decide +kernel
theorem dX2_filled_11 : decode cX2_filled 11 = .ok (.getfield 28, 3) := by decide +kernel
theorem dX2_filled_14 : decode cX2_filled 14 = .ok (.if_icmp .ge 63, 3) := by decide +kernel
theorem dX2_filled_17 : decode cX2_filled 17 = .ok (.aload_n 1, 1) := by decide +kernel
theorem dX2_filled_18 : decode cX2_filled 18 = .ok (.iload 4, 2) := by decide +kernel
theorem dX2_filled_20 : decode cX2_filled 20 = .ok (.invokevirtual 33, 3) := by decide +kernel
theorem dX2_filled_23 : decode cX2_filled 23 = .ok (.ifCond .eq 48, 3) := by decide +kernel
theorem dX2_filled_26 : decode cX2_filled 26 = .ok (.aload_n 0, 1) := by decide +kernel
theorem dX2_filled_27 : decode cX2_filled 27 = .ok (.getfield 24, 3) := by decide +kernel
theorem dX2_filled_30 : decode cX2_filled 30 = .ok (.iload_n 3, 1) := by decide +kernel
theorem dX2_filled_31 : decode cX2_filled 31 = .ok (.if_icmp .ge 12, 3) := by decide +kernel
theorem dX2_filled_34 : decode cX2_filled 34 = .ok (.aload_n 0, 1) := by decide +kernel
theorem dX2_filled_35 : decode cX2_filled 35 = .ok (.getfield 24, 3) := by decide +kernel
theorem dX2_filled_38 : decode cX2_filled 38 = .ok (.bipush 60, 2) := by decide +kernel
theorem dX2_filled_40 : decode cX2_filled 40 = .ok (.if_icmp .lt 6, 3) := by decide +kernel
theorem dX2_filled_43 : decode cX2_filled 43 = .ok (.bipush (-13), 2) := by decide +kernel
theorem dX2_filled_45 : decode cX2_filled 45 = .ok (.ireturn, 1) := by decide +kernel
theorem dX2_filled_46 : decode cX2_filled 46 = .ok (.iload_n 2, 1) := by decide +kernel
theorem dX2_filled_47 : decode cX2_filled 47 = .ok (.ifCond .eq 17, 3) := by decide +kernel
theorem dX2_filled_50 : decode cX2_filled 50 = .ok (.aload_n 1, 1) := by decide +kernel
theorem dX2_filled_51 : decode cX2_filled 51 = .ok (.getfield 37, 3) := by decide +kernel
theorem dX2_filled_54 : decode cX2_filled 54 = .ok (.iload 4, 2) := by decide +kernel
theorem dX2_filled_56 : decode cX2_filled 56 = .ok (.iaload, 1) := by decide +kernel
theorem dX2_filled_57 : decode cX2_filled 57 = .ok (.iconst 2, 1) := by decide +kernel
theorem dX2_filled_58 : decode cX2_filled 58 = .ok (.if_icmp .ne 6, 3) := by decide +kernel
theorem dX2_filled_61 : decode cX2_filled 61 = .ok (.bipush (-16), 2) := by decide +kernel
theorem dX2_filled_63 : decode cX2_filled 63 = .ok (.ireturn, 1) := by decide +kernel
theorem dX2_filled_64 : decode cX2_filled 64 = .ok (.aload_n 0, 1) := by decide +kernel
theorem dX2_filled_65 : decode cX2_filled 65 = .ok (.aload_n 1, 1) := by decide +kernel
theorem dX2_filled_66 : decode cX2_filled 66 = .ok (.iload 4, 2) := by decide +kernel
theorem dX2_filled_68 : decode cX2_filled 68 = .ok (.invokevirtual 38, 3) := by decide +kernel
theorem dX2_filled_71 : decode cX2_filled 71 = .ok (.iinc 4 1, 3) := by decide +kernel
theorem dX2_filled_74 : decode cX2_filled 74 = .ok (.goto (-66), 3) := by decide +kernel
theorem dX2_filled_77 : decode cX2_filled 77 = .ok (.aload_n 0, 1) := by decide +kernel
theorem dX2_filled_78 : decode cX2_filled 78 = .ok (.getfield 24, 3) := by decide +kernel
theorem dX2_filled_81 : decode cX2_filled 81 = .ok (.ireturn, 1) := by decide +kernel
theorem dX2_takeRecord_0 : decode cX2_takeRecord 0 = .ok (.aload_n 0, 1) := by decide +kernel
theorem dX2_takeRecord_1 : decode cX2_takeRecord 1 = .ok (.getfield 9, 3) := by decide +kernel
theorem dX2_takeRecord_4 : decode cX2_takeRecord 4 = .ok (.aload_n 0, 1) := by decide +kernel
theorem dX2_takeRecord_5 : decode cX2_takeRecord 5 = .ok (.getfield 24, 3) := by decide +kernel
theorem dX2_takeRecord_8 : decode cX2_takeRecord 8 = .ok (.iload_n 2, 1) := by decide +kernel
theorem dX2_takeRecord_9 : decode cX2_takeRecord 9 = .ok (.iastore, 1) := by decide +kernel
theorem dX2_takeRecord_10 : decode cX2_takeRecord 10 = .ok (.aload_n 0, 1) := by decide +kernel
theorem dX2_takeRecord_11 : decode cX2_takeRecord 11 = .ok (.getfield 15, 3) := by decide +kernel
theorem dX2_takeRecord_14 : decode cX2_takeRecord 14 = .ok (.aload_n 0, 1) := by decide +kernel
theorem dX2_takeRecord_15 : decode cX2_takeRecord 15 = .ok (.getfield 24, 3) := by decide +kernel
theorem dX2_takeRecord_18 : decode cX2_takeRecord 18 = .ok (.aload_n 1, 1) := by decide +kernel
theorem dX2_takeRecord_19 : decode cX2_takeRecord 19 = .ok (.getfield 42, 3) := by decide +kernel
theorem dX2_takeRecord_22 : decode cX2_takeRecord 22 = .ok (.iload_n 2, 1) := by decide +kernel
theorem dX2_takeRecord_23 : decode cX2_takeRecord 23 = .ok (.iaload, 1) := by decide +kernel
theorem dX2_takeRecord_24 : decode cX2_takeRecord 24 = .ok (.iastore, 1) := by decide +kernel
theorem dX2_takeRecord_25 : decode cX2_takeRecord 25 = .ok (.aload_n 0, 1) := by decide +kernel
theorem dX2_takeRecord_26 : decode cX2_takeRecord 26 = .ok (.getfield 18, 3) := by decide +kernel
theorem dX2_takeRecord_29 : decode cX2_takeRecord 29 = .ok (.aload_n 0, 1) := by decide +kernel
theorem dX2_takeRecord_30 : decode cX2_takeRecord 30 = .ok (.getfield 24, 3) := by decide +kernel
theorem dX2_takeRecord_33 : decode cX2_takeRecord 33 = .ok (.aload_n 1, 1) := by decide +kernel
theorem dX2_takeRecord_34 : decode cX2_takeRecord 34 = .ok (.getfield 37, 3) := by decide +kernel
theorem dX2_takeRecord_37 : decode cX2_takeRecord 37 = .ok (.iload_n 2, 1) := by decide +kernel
theorem dX2_takeRecord_38 : decode cX2_takeRecord 38 = .ok (.iaload, 1) := by decide +kernel
theorem dX2_takeRecord_39 : decode cX2_takeRecord 39 = .ok (.iastore, 1) := by decide +kernel
theorem dX2_takeRecord_40 : decode cX2_takeRecord 40 = .ok (.aload_n 0, 1) := by decide +kernel
theorem dX2_takeRecord_41 : decode cX2_takeRecord 41 = .ok (.getfield 21, 3) := by decide +kernel
theorem dX2_takeRecord_44 : decode cX2_takeRecord 44 = .ok (.aload_n 0, 1) := by decide +kernel
theorem dX2_takeRecord_45 : decode cX2_takeRecord 45 = .ok (.getfield 24, 3) := by decide +kernel
theorem dX2_takeRecord_48 : decode cX2_takeRecord 48 = .ok (.aload_n 1, 1) := by decide +kernel
theorem dX2_takeRecord_49 : decode cX2_takeRecord 49 = .ok (.getfield 43, 3) := by decide +kernel
theorem dX2_takeRecord_52 : decode cX2_takeRecord 52 = .ok (.iload_n 2, 1) := by decide +kernel
theorem dX2_takeRecord_53 : decode cX2_takeRecord 53 = .ok (.iaload, 1) := by decide +kernel
theorem dX2_takeRecord_54 : decode cX2_takeRecord 54 = .ok (.iastore, 1) := by decide +kernel
theorem dX2_takeRecord_55 : decode cX2_takeRecord 55 = .ok (.aload_n 0, 1) := by decide +kernel
theorem dX2_takeRecord_56 : decode cX2_takeRecord 56 = .ok (.dup, 1) := by decide +kernel
theorem dX2_takeRecord_57 : decode cX2_takeRecord 57 = .ok (.getfield 24, 3) := by decide +kernel
theorem dX2_takeRecord_60 : decode cX2_takeRecord 60 = .ok (.iconst 1, 1) := by decide +kernel
theorem dX2_takeRecord_61 : decode cX2_takeRecord 61 = .ok (.iadd, 1) := by decide +kernel
theorem dX2_takeRecord_62 : decode cX2_takeRecord 62 = .ok (.putfield 24, 3) := by decide +kernel
theorem dX2_takeRecord_65 : decode cX2_takeRecord 65 = .ok (.return_, 1) := by decide +kernel
theorem dX2_about_0 : decode cX2_about 0 = .ok (.iload_n 2, 1) := by decide +kernel
theorem dX2_about_1 : decode cX2_about 1 = .ok (.tableswitch 87 0 3 #[31, 39, 47, 63], 31) := by decide +kernel
theorem dX2_about_32 : decode cX2_about 32 = .ok (.aload_n 0, 1) := by decide +kernel
theorem dX2_about_33 : decode cX2_about 33 = .ok (.getfield 9, 3) := by decide +kernel
theorem dX2_about_36 : decode cX2_about 36 = .ok (.iload_n 1, 1) := by decide +kernel
theorem dX2_about_37 : decode cX2_about 37 = .ok (.iaload, 1) := by decide +kernel
theorem dX2_about_38 : decode cX2_about 38 = .ok (.i2l, 1) := by decide +kernel
theorem dX2_about_39 : decode cX2_about 39 = .ok (.lreturn, 1) := by decide +kernel
theorem dX2_about_40 : decode cX2_about 40 = .ok (.aload_n 0, 1) := by decide +kernel
theorem dX2_about_41 : decode cX2_about 41 = .ok (.getfield 15, 3) := by decide +kernel
theorem dX2_about_44 : decode cX2_about 44 = .ok (.iload_n 1, 1) := by decide +kernel
theorem dX2_about_45 : decode cX2_about 45 = .ok (.iaload, 1) := by decide +kernel
theorem dX2_about_46 : decode cX2_about 46 = .ok (.i2l, 1) := by decide +kernel
theorem dX2_about_47 : decode cX2_about 47 = .ok (.lreturn, 1) := by decide +kernel
theorem dX2_about_48 : decode cX2_about 48 = .ok (.aload_n 0, 1) := by decide +kernel
theorem dX2_about_49 : decode cX2_about 49 = .ok (.getfield 18, 3) := by decide +kernel
theorem dX2_about_52 : decode cX2_about 52 = .ok (.iload_n 1, 1) := by decide +kernel
theorem dX2_about_53 : decode cX2_about 53 = .ok (.iaload, 1) := by decide +kernel
theorem dX2_about_54 : decode cX2_about 54 = .ok (.iconst 2, 1) := by decide +kernel
theorem dX2_about_55 : decode cX2_about 55 = .ok (.if_icmp .ne 7, 3) := by decide +kernel
theorem dX2_about_58 : decode cX2_about 58 = .ok (.lconst 1, 1) := by decide +kernel
theorem dX2_about_59 : decode cX2_about 59 = .ok (.goto 4, 3) := by decide +kernel
theorem dX2_about_62 : decode cX2_about 62 = .ok (.lconst 0, 1) := by decide +kernel
theorem dX2_about_63 : decode cX2_about 63 = .ok (.lreturn, 1) := by decide +kernel
theorem dX2_about_64 : decode cX2_about 64 = .ok (.aload_n 0, 1) := by decide +kernel
theorem dX2_about_65 : decode cX2_about 65 = .ok (.getfield 18, 3) := by decide +kernel
theorem dX2_about_68 : decode cX2_about 68 = .ok (.iload_n 1, 1) := by decide +kernel
theorem dX2_about_69 : decode cX2_about 69 = .ok (.iaload, 1) := by decide +kernel
theorem dX2_about_70 : decode cX2_about 70 = .ok (.iconst 2, 1) := by decide +kernel
theorem dX2_about_71 : decode cX2_about 71 = .ok (.if_icmp .ne 9, 3) := by decide +kernel
theorem dX2_about_74 : decode cX2_about 74 = .ok (.ldc2_w 44, 3) := by decide +kernel
theorem dX2_about_77 : decode cX2_about 77 = .ok (.goto 10, 3) := by decide +kernel
theorem dX2_about_80 : decode cX2_about 80 = .ok (.aload_n 0, 1) := by decide +kernel
theorem dX2_about_81 : decode cX2_about 81 = .ok (.getfield 21, 3) := by decide +kernel
theorem dX2_about_84 : decode cX2_about 84 = .ok (.iload_n 1, 1) := by decide +kernel
theorem dX2_about_85 : decode cX2_about 85 = .ok (.iaload, 1) := by decide +kernel
theorem dX2_about_86 : decode cX2_about 86 = .ok (.i2l, 1) := by decide +kernel
theorem dX2_about_87 : decode cX2_about 87 = .ok (.lreturn, 1) := by decide +kernel
theorem dX2_about_88 : decode cX2_about 88 = .ok (.ldc2_w 44, 3) := by decide +kernel
theorem dX2_about_91 : decode cX2_about 91 = .ok (.lreturn, 1) := by decide +kernel
theorem dX3_init_0 : decode cX3_init 0 = .ok (.aload_n 0, 1) := by decide +kernel
theorem dX3_init_1 : decode cX3_init 1 = .ok (.invokespecial 3, 3) := by decide +kernel
theorem dX3_init_4 : decode cX3_init 4 = .ok (.aload_n 0, 1) := by decide +kernel
theorem dX3_init_5 : decode cX3_init 5 = .ok (.sipush 200, 3) := by decide +kernel
theorem dX3_init_8 : decode cX3_init 8 = .ok (.newarray .int, 2) := by decide +kernel
theorem dX3_init_10 : decode cX3_init 10 = .ok (.putfield 9, 3) := by decide +kernel
theorem dX3_init_13 : decode cX3_init 13 = .ok (.aload_n 0, 1) := by decide +kernel
theorem dX3_init_14 : decode cX3_init 14 = .ok (.sipush 200, 3) := by decide +kernel
theorem dX3_init_17 : decode cX3_init 17 = .ok (.newarray .int, 2) := by decide +kernel
theorem dX3_init_19 : decode cX3_init 19 = .ok (.putfield 15, 3) := by decide +kernel
theorem dX3_init_22 : decode cX3_init 22 = .ok (.aload_n 0, 1) := by decide +kernel
theorem dX3_init_23 : decode cX3_init 23 = .ok (.sipush 200, 3) := by decide +kernel
theorem dX3_init_26 : decode cX3_init 26 = .ok (.newarray .int, 2) := by decide +kernel
theorem dX3_init_28 : decode cX3_init 28 = .ok (.putfield 18, 3) := by decide +kernel
theorem dX3_init_31 : decode cX3_init 31 = .ok (.aload_n 0, 1) := by decide +kernel
theorem dX3_init_32 : decode cX3_init 32 = .ok (.sipush 200, 3) := by decide +kernel
theorem dX3_init_35 : decode cX3_init 35 = .ok (.newarray .int, 2) := by decide +kernel
theorem dX3_init_37 : decode cX3_init 37 = .ok (.putfield 21, 3) := by decide +kernel
theorem dX3_init_40 : decode cX3_init 40 = .ok (.aload_n 0, 1) := by decide +kernel
theorem dX3_init_41 : decode cX3_init 41 = .ok (.sipush 200, 3) := by decide +kernel
theorem dX3_init_44 : decode cX3_init 44 = .ok (.newarray .int, 2) := by decide +kernel
theorem dX3_init_46 : decode cX3_init 46 = .ok (.putfield 24, 3) := by decide +kernel
theorem dX3_init_49 : decode cX3_init 49 = .ok (.aload_n 0, 1) := by decide +kernel
theorem dX3_init_50 : decode cX3_init 50 = .ok (.sipush 201, 3) := by decide +kernel
theorem dX3_init_53 : decode cX3_init 53 = .ok (.newarray .int, 2) := by decide +kernel
theorem dX3_init_55 : decode cX3_init 55 = .ok (.putfield 27, 3) := by decide +kernel
theorem dX3_init_58 : decode cX3_init 58 = .ok (.aload_n 0, 1) := by decide +kernel
theorem dX3_init_59 : decode cX3_init 59 = .ok (.bipush 26, 2) := by decide +kernel
theorem dX3_init_61 : decode cX3_init 61 = .ok (.newarray .int, 2) := by decide +kernel
theorem dX3_init_63 : decode cX3_init 63 = .ok (.putfield 30, 3) := by decide +kernel
theorem dX3_init_66 : decode cX3_init 66 = .ok (.aload_n 0, 1) := by decide +kernel
theorem dX3_init_67 : decode cX3_init 67 = .ok (.iconst 1, 1) := by decide +kernel
theorem dX3_init_68 : decode cX3_init 68 = .ok (.putfield 33, 3) := by decide +kernel
theorem dX3_init_71 : decode cX3_init 71 = .ok (.return_, 1) := by decide +kernel
theorem dX3_copyFrom_0 : decode cX3_copyFrom 0 = .ok (.aload_n 1, 1) := by decide +kernel
theorem dX3_copyFrom_1 : decode cX3_copyFrom 1 = .ok (.getfield 9, 3) := by decide +kernel
theorem dX3_copyFrom_4 : decode cX3_copyFrom 4 = .ok (.iconst 0, 1) := by decide +kernel
theorem dX3_copyFrom_5 : decode cX3_copyFrom 5 = .ok (.aload_n 0, 1) := by decide +kernel
theorem dX3_copyFrom_6 : decode cX3_copyFrom 6 = .ok (.getfield 9, 3) := by decide +kernel
theorem dX3_copyFrom_9 : decode cX3_copyFrom 9 = .ok (.iconst 0, 1) := by decide +kernel
theorem dX3_copyFrom_10 : decode cX3_copyFrom 10 = .ok (.sipush 200, 3) := by decide +kernel
theorem dX3_copyFrom_13 : decode cX3_copyFrom 13 = .ok (.invokestatic 37, 3) := by decide +kernel
theorem dX3_copyFrom_16 : decode cX3_copyFrom 16 = .ok (.aload_n 1, 1) := by decide +kernel
theorem dX3_copyFrom_17 : decode cX3_copyFrom 17 = .ok (.getfield 15, 3) := by decide +kernel
theorem dX3_copyFrom_20 : decode cX3_copyFrom 20 = .ok (.iconst 0, 1) := by decide +kernel
theorem dX3_copyFrom_21 : decode cX3_copyFrom 21 = .ok (.aload_n 0, 1) := by decide +kernel
theorem dX3_copyFrom_22 : decode cX3_copyFrom 22 = .ok (.getfield 15, 3) := by decide +kernel
theorem dX3_copyFrom_25 : decode cX3_copyFrom 25 = .ok (.iconst 0, 1) := by decide +kernel
theorem dX3_copyFrom_26 : decode cX3_copyFrom 26 = .ok (.sipush 200, 3) := by decide +kernel
theorem dX3_copyFrom_29 : decode cX3_copyFrom 29 = .ok (.invokestatic 37, 3) := by decide +kernel
theorem dX3_copyFrom_32 : decode cX3_copyFrom 32 = .ok (.aload_n 1, 1) := by decide +kernel
theorem dX3_copyFrom_33 : decode cX3_copyFrom 33 = .ok (.getfield 18, 3) := by decide +kernel
theorem dX3_copyFrom_36 : decode cX3_copyFrom 36 = .ok (.iconst 0, 1) := by decide +kernel
theorem dX3_copyFrom_37 : decode cX3_copyFrom 37 = .ok (.aload_n 0, 1) := by decide +kernel
theorem dX3_copyFrom_38 : decode cX3_copyFrom 38 = .ok (.getfield 18, 3) := by decide +kernel
theorem dX3_copyFrom_41 : decode cX3_copyFrom 41 = .ok (.iconst 0, 1) := by decide +kernel
theorem dX3_copyFrom_42 : decode cX3_copyFrom 42 = .ok (.sipush 200, 3) := by decide +kernel
theorem dX3_copyFrom_45 : decode cX3_copyFrom 45 = .ok (.invokestatic 37, 3) := by decide +kernel
theorem dX3_copyFrom_48 : decode cX3_copyFrom 48 = .ok (.aload_n 1, 1) := by decide +kernel
theorem dX3_copyFrom_49 : decode cX3_copyFrom 49 = .ok (.getfield 21, 3) := by decide +kernel
theorem dX3_copyFrom_52 : decode cX3_copyFrom 52 = .ok (.iconst 0, 1) := by decide +kernel
theorem dX3_copyFrom_53 : decode cX3_copyFrom 53 = .ok (.aload_n 0, 1) := by decide +kernel
theorem dX3_copyFrom_54 : decode cX3_copyFrom 54 = .ok (.getfield 21, 3) := by decide +kernel
theorem dX3_copyFrom_57 : decode cX3_copyFrom 57 = .ok (.iconst 0, 1) := by decide +kernel
theorem dX3_copyFrom_58 : decode cX3_copyFrom 58 = .ok (.sipush 200, 3) := by decide +kernel
theorem dX3_copyFrom_61 : decode cX3_copyFrom 61 = .ok (.invokestatic 37, 3) := by decide +kernel
theorem dX3_copyFrom_64 : decode cX3_copyFrom 64 = .ok (.aload_n 1, 1) := by decide +kernel
theorem dX3_copyFrom_65 : decode cX3_copyFrom 65 = .ok (.getfield 24, 3) := by decide +kernel
theorem dX3_copyFrom_68 : decode cX3_copyFrom 68 = .ok (.iconst 0, 1) := by decide +kernel
theorem dX3_copyFrom_69 : decode cX3_copyFrom 69 = .ok (.aload_n 0, 1) := by decide +kernel
theorem dX3_copyFrom_70 : decode cX3_copyFrom 70 = .ok (.getfield 24, 3) := by decide +kernel
theorem dX3_copyFrom_73 : decode cX3_copyFrom 73 = .ok (.iconst 0, 1) := by decide +kernel
theorem dX3_copyFrom_74 : decode cX3_copyFrom 74 = .ok (.sipush 200, 3) := by decide +kernel
theorem dX3_copyFrom_77 : decode cX3_copyFrom 77 = .ok (.invokestatic 37, 3) := by decide +kernel
theorem dX3_copyFrom_80 : decode cX3_copyFrom 80 = .ok (.aload_n 1, 1) := by decide +kernel
theorem dX3_copyFrom_81 : decode cX3_copyFrom 81 = .ok (.getfield 27, 3) := by decide +kernel
theorem dX3_copyFrom_84 : decode cX3_copyFrom 84 = .ok (.iconst 0, 1) := by decide +kernel
theorem dX3_copyFrom_85 : decode cX3_copyFrom 85 = .ok (.aload_n 0, 1) := by decide +kernel
theorem dX3_copyFrom_86 : decode cX3_copyFrom 86 = .ok (.getfield 27, 3) := by decide +kernel
theorem dX3_copyFrom_89 : decode cX3_copyFrom 89 = .ok (.iconst 0, 1) := by decide +kernel
theorem dX3_copyFrom_90 : decode cX3_copyFrom 90 = .ok (.sipush 201, 3) := by decide +kernel
theorem dX3_copyFrom_93 : decode cX3_copyFrom 93 = .ok (.invokestatic 37, 3) := by decide +kernel
theorem dX3_copyFrom_96 : decode cX3_copyFrom 96 = .ok (.aload_n 0, 1) := by decide +kernel
theorem dX3_copyFrom_97 : decode cX3_copyFrom 97 = .ok (.aload_n 1, 1) := by decide +kernel
theorem dX3_copyFrom_98 : decode cX3_copyFrom 98 = .ok (.getfield 43, 3) := by decide +kernel
theorem dX3_copyFrom_101 : decode cX3_copyFrom 101 = .ok (.putfield 43, 3) := by decide +kernel
theorem dX3_copyFrom_104 : decode cX3_copyFrom 104 = .ok (.aload_n 0, 1) := by decide +kernel
theorem dX3_copyFrom_105 : decode cX3_copyFrom 105 = .ok (.aload_n 1, 1) := by decide +kernel
theorem dX3_copyFrom_106 : decode cX3_copyFrom 106 = .ok (.getfield 33, 3) := by decide +kernel
theorem dX3_copyFrom_109 : decode cX3_copyFrom 109 = .ok (.putfield 33, 3) := by decide +kernel
theorem dX3_copyFrom_112 : decode cX3_copyFrom 112 = .ok (.return_, 1) := by decide +kernel
theorem dX3_isFull_0 : decode cX3_isFull 0 = .ok (.aload_n 0, 1) := by decide +kernel
theorem dX3_isFull_1 : decode cX3_isFull 1 = .ok (.getfield 43, 3) := by decide +kernel
theorem dX3_isFull_4 : decode cX3_isFull 4 = .ok (.sipush 200, 3) := by decide +kernel
theorem dX3_isFull_7 : decode cX3_isFull 7 = .ok (.if_icmp .lt 7, 3) := by decide +kernel
theorem dX3_isFull_10 : decode cX3_isFull 10 = .ok (.iconst 1, 1) := by decide +kernel
theorem dX3_isFull_11 : decode cX3_isFull 11 = .ok (.goto 4, 3) := by decide +kernel
theorem dX3_isFull_14 : decode cX3_isFull 14 = .ok (.iconst 0, 1) := by decide +kernel
theorem dX3_isFull_15 : decode cX3_isFull 15 = .ok (.ireturn, 1) := by decide +kernel
theorem dX3_append_0 : decode cX3_append 0 = .ok (.aload_n 0, 1) := by decide +kernel
theorem dX3_append_1 : decode cX3_append 1 = .ok (.getfield 43, 3) := by decide +kernel
theorem dX3_append_4 : decode cX3_append 4 = .ok (.istore 6, 2) := by decide +kernel
theorem dX3_append_6 : decode cX3_append 6 = .ok (.aload_n 0, 1) := by decide +kernel
theorem dX3_append_7 : decode cX3_append 7 = .ok (.getfield 9, 3) := by decide +kernel
theorem dX3_append_10 : decode cX3_append 10 = .ok (.iload 6, 2) := by decide +kernel
theorem dX3_append_12 : decode cX3_append 12 = .ok (.iload_n 2, 1) := by decide +kernel
theorem dX3_append_13 : decode cX3_append 13 = .ok (.iastore, 1) := by decide +kernel
theorem dX3_append_14 : decode cX3_append 14 = .ok (.aload_n 0, 1) := by decide +kernel
theorem dX3_append_15 : decode cX3_append 15 = .ok (.getfield 15, 3) := by decide +kernel
theorem dX3_append_18 : decode cX3_append 18 = .ok (.iload 6, 2) := by decide +kernel
theorem dX3_append_20 : decode cX3_append 20 = .ok (.iload_n 1, 1) := by decide +kernel
theorem dX3_append_21 : decode cX3_append 21 = .ok (.iastore, 1) := by decide +kernel
theorem dX3_append_22 : decode cX3_append 22 = .ok (.aload_n 0, 1) := by decide +kernel
theorem dX3_append_23 : decode cX3_append 23 = .ok (.getfield 18, 3) := by decide +kernel
theorem dX3_append_26 : decode cX3_append 26 = .ok (.iload 6, 2) := by decide +kernel
theorem dX3_append_28 : decode cX3_append 28 = .ok (.iload 5, 2) := by decide +kernel
theorem dX3_append_30 : decode cX3_append 30 = .ok (.iastore, 1) := by decide +kernel
theorem dX3_append_31 : decode cX3_append 31 = .ok (.aload_n 0, 1) := by decide +kernel
theorem dX3_append_32 : decode cX3_append 32 = .ok (.getfield 21, 3) := by decide +kernel
theorem dX3_append_35 : decode cX3_append 35 = .ok (.iload 6, 2) := by decide +kernel
theorem dX3_append_37 : decode cX3_append 37 = .ok (.iload 4, 2) := by decide +kernel
theorem dX3_append_39 : decode cX3_append 39 = .ok (.iastore, 1) := by decide +kernel
theorem dX3_append_40 : decode cX3_append 40 = .ok (.aload_n 0, 1) := by decide +kernel
theorem dX3_append_41 : decode cX3_append 41 = .ok (.getfield 24, 3) := by decide +kernel
theorem dX3_append_44 : decode cX3_append 44 = .ok (.iload 6, 2) := by decide +kernel
theorem dX3_append_46 : decode cX3_append 46 = .ok (.iload_n 3, 1) := by decide +kernel
theorem dX3_append_47 : decode cX3_append 47 = .ok (.iastore, 1) := by decide +kernel
theorem dX3_append_48 : decode cX3_append 48 = .ok (.aload_n 0, 1) := by decide +kernel
theorem dX3_append_49 : decode cX3_append 49 = .ok (.dup, 1) := by decide +kernel
theorem dX3_append_50 : decode cX3_append 50 = .ok (.getfield 43, 3) := by decide +kernel
theorem dX3_append_53 : decode cX3_append 53 = .ok (.iconst 1, 1) := by decide +kernel
theorem dX3_append_54 : decode cX3_append 54 = .ok (.iadd, 1) := by decide +kernel
theorem dX3_append_55 : decode cX3_append 55 = .ok (.putfield 43, 3) := by decide +kernel
theorem dX3_append_58 : decode cX3_append 58 = .ok (.aload_n 0, 1) := by decide +kernel
theorem dX3_append_59 : decode cX3_append 59 = .ok (.getfield 27, 3) := by decide +kernel
theorem dX3_append_62 : decode cX3_append 62 = .ok (.aload_n 0, 1) := by decide +kernel
theorem dX3_append_63 : decode cX3_append 63 = .ok (.getfield 33, 3) := by decide +kernel
theorem dX3_append_66 : decode cX3_append 66 = .ok (.iconst 1, 1) := by decide +kernel
theorem dX3_append_67 : decode cX3_append 67 = .ok (.isub, 1) := by decide +kernel
theorem dX3_append_68 : decode cX3_append 68 = .ok (.iaload, 1) := by decide +kernel
theorem dX3_append_69 : decode cX3_append 69 = .ok (.istore 7, 2) := by decide +kernel
theorem dX3_append_71 : decode cX3_append 71 = .ok (.aload_n 0, 1) := by decide +kernel
theorem dX3_append_72 : decode cX3_append 72 = .ok (.iload 7, 2) := by decide +kernel
theorem dX3_append_74 : decode cX3_append 74 = .ok (.aload_n 0, 1) := by decide +kernel
theorem dX3_append_75 : decode cX3_append 75 = .ok (.getfield 43, 3) := by decide +kernel
theorem dX3_append_78 : decode cX3_append 78 = .ok (.invokevirtual 46, 3) := by decide +kernel
theorem dX3_append_81 : decode cX3_append 81 = .ok (.iconst 4, 1) := by decide +kernel
theorem dX3_append_82 : decode cX3_append 82 = .ok (.if_icmp .ge 18, 3) := by decide +kernel
theorem dX3_append_85 : decode cX3_append 85 = .ok (.aload_n 0, 1) := by decide +kernel
theorem dX3_append_86 : decode cX3_append 86 = .ok (.iload 7, 2) := by decide +kernel
theorem dX3_append_88 : decode cX3_append 88 = .ok (.aload_n 0, 1) := by decide +kernel
theorem dX3_append_89 : decode cX3_append 89 = .ok (.getfield 43, 3) := by decide +kernel
theorem dX3_append_92 : decode cX3_append 92 = .ok (.invokevirtual 50, 3) := by decide +kernel
theorem dX3_append_95 : decode cX3_append 95 = .ok (.bipush 20, 2) := by decide +kernel
theorem dX3_append_97 : decode cX3_append 97 = .ok (.if_icmp .lt 26, 3) := by decide +kernel
theorem dX3_append_100 : decode cX3_append 100 = .ok (.aload_n 0, 1) := by decide +kernel
theorem dX3_append_101 : decode cX3_append 101 = .ok (.getfield 27, 3) := by decide +kernel
theorem dX3_append_104 : decode cX3_append 104 = .ok (.aload_n 0, 1) := by decide +kernel
theorem dX3_append_105 : decode cX3_append 105 = .ok (.getfield 33, 3) := by decide +kernel
theorem dX3_append_108 : decode cX3_append 108 = .ok (.aload_n 0, 1) := by decide +kernel
theorem dX3_append_109 : decode cX3_append 109 = .ok (.getfield 43, 3) := by decide +kernel
theorem dX3_append_112 : decode cX3_append 112 = .ok (.iastore, 1) := by decide +kernel
theorem dX3_append_113 : decode cX3_append 113 = .ok (.aload_n 0, 1) := by decide +kernel
theorem dX3_append_114 : decode cX3_append 114 = .ok (.dup, 1) := by decide +kernel
theorem dX3_append_115 : decode cX3_append 115 = .ok (.getfield 33, 3) := by decide +kernel
theorem dX3_append_118 : decode cX3_append 118 = .ok (.iconst 1, 1) := by decide +kernel
theorem dX3_append_119 : decode cX3_append 119 = .ok (.iadd, 1) := by decide +kernel
theorem dX3_append_120 : decode cX3_append 120 = .ok (.putfield 33, 3) := by decide +kernel
theorem dX3_append_123 : decode cX3_append 123 = .ok (.iload 6, 2) := by decide +kernel
theorem dX3_append_125 : decode cX3_append 125 = .ok (.ireturn, 1) := by decide +kernel
theorem dX3_has_0 : decode cX3_has 0 = .ok (.iload_n 1, 1) := by decide +kernel
theorem dX3_has_1 : decode cX3_has 1 = .ok (.ifCond .lt 24, 3) := by decide +kernel
theorem dX3_has_4 : decode cX3_has 4 = .ok (.iload_n 1, 1) := by decide +kernel
theorem dX3_has_5 : decode cX3_has 5 = .ok (.aload_n 0, 1) := by decide +kernel
theorem dX3_has_6 : decode cX3_has 6 = .ok (.getfield 43, 3) := by decide +kernel
theorem dX3_has_9 : decode cX3_has 9 = .ok (.if_icmp .ge 16, 3) := by decide +kernel
theorem dX3_has_12 : decode cX3_has 12 = .ok (.aload_n 0, 1) := by decide +kernel
theorem dX3_has_13 : decode cX3_has 13 = .ok (.getfield 9, 3) := by decide +kernel
theorem dX3_has_16 : decode cX3_has 16 = .ok (.iload_n 1, 1) := by decide +kernel
theorem dX3_has_17 : decode cX3_has 17 = .ok (.iaload, 1) := by decide +kernel
theorem dX3_has_18 : decode cX3_has 18 = .ok (.ifCond .eq 7, 3) := by decide +kernel
theorem dX3_has_21 : decode cX3_has 21 = .ok (.iconst 1, 1) := by decide +kernel
theorem dX3_has_22 : decode cX3_has 22 = .ok (.goto 4, 3) := by decide +kernel
theorem dX3_has_25 : decode cX3_has 25 = .ok (.iconst 0, 1) := by decide +kernel
theorem dX3_has_26 : decode cX3_has 26 = .ok (.ireturn, 1) := by decide +kernel
theorem dX3_start_0 : decode cX3_start 0 = .ok (.aload_n 0, 1) := by decide +kernel
theorem dX3_start_1 : decode cX3_start 1 = .ok (.getfield 27, 3) := by decide +kernel
theorem dX3_start_4 : decode cX3_start 4 = .ok (.iconst 0, 1) := by decide +kernel
theorem dX3_start_5 : decode cX3_start 5 = .ok (.iaload, 1) := by decide +kernel
theorem dX3_start_6 : decode cX3_start 6 = .ok (.ireturn, 1) := by decide +kernel
theorem dX3_records_0 : decode cX3_records 0 = .ok (.aload_n 0, 1) := by decide +kernel
theorem dX3_records_1 : decode cX3_records 1 = .ok (.iconst 0, 1) := by decide +kernel
theorem dX3_records_2 : decode cX3_records 2 = .ok (.aload_n 0, 1) := by decide +kernel
theorem dX3_records_3 : decode cX3_records 3 = .ok (.getfield 43, 3) := by decide +kernel
theorem dX3_records_6 : decode cX3_records 6 = .ok (.invokevirtual 46, 3) := by decide +kernel
theorem dX3_records_9 : decode cX3_records 9 = .ok (.ireturn, 1) := by decide +kernel
theorem dX3_recordsIn_0 : decode cX3_recordsIn 0 = .ok (.iconst 0, 1) := by decide +kernel
theorem dX3_recordsIn_1 : decode cX3_recordsIn 1 = .ok (.istore_n 3, 1) := by decide +kernel
theorem dX3_recordsIn_2 : decode cX3_recordsIn 2 = .ok (.iload_n 1, 1) := by decide +kernel
theorem dX3_recordsIn_3 : decode cX3_recordsIn 3 = .ok (.iconst 0, 1) := by decide +kernel
theorem dX3_recordsIn_4 : decode cX3_recordsIn 4 = .ok (.invokestatic 53, 3) := by decide +kernel
theorem dX3_recordsIn_7 : decode cX3_recordsIn 7 = .ok (.istore 4, 2) := by decide +kernel
theorem dX3_recordsIn_9 : decode cX3_recordsIn 9 = .ok (.iload 4, 2) := by decide +kernel
theorem dX3_recordsIn_11 : decode cX3_recordsIn 11 = .ok (.iload_n 2, 1) := by decide +kernel
theorem dX3_recordsIn_12 : decode cX3_recordsIn 12 = .ok (.if_icmp .ge 31, 3) := by decide +kernel
theorem dX3_recordsIn_15 : decode cX3_recordsIn 15 = .ok (.iload 4, 2) := by decide +kernel
theorem dX3_recordsIn_17 : decode cX3_recordsIn 17 = .ok (.aload_n 0, 1) := by decide +kernel
theorem dX3_recordsIn_18 : decode cX3_recordsIn 18 = .ok (.getfield 43, 3) := by decide +kernel
theorem dX3_recordsIn_21 : decode cX3_recordsIn 21 = .ok (.if_icmp .ge 22, 3) := by decide +kernel
theorem dX3_recordsIn_24 : decode cX3_recordsIn 24 = .ok (.aload_n 0, 1) := by decide +kernel
theorem dX3_recordsIn_25 : decode cX3_recordsIn 25 = .ok (.getfield 9, 3) := by decide +kernel
theorem dX3_recordsIn_28 : decode cX3_recordsIn 28 = .ok (.iload 4, 2) := by decide +kernel
theorem dX3_recordsIn_30 : decode cX3_recordsIn 30 = .ok (.iaload, 1) := by decide +kernel
theorem dX3_recordsIn_31 : decode cX3_recordsIn 31 = .ok (.ifCond .eq 6, 3) := by decide +kernel
theorem dX3_recordsIn_34 : decode cX3_recordsIn 34 = .ok (.iinc 3 1, 3) := by decide +kernel
theorem dX3_recordsIn_37 : decode cX3_recordsIn 37 = .ok (.iinc 4 1, 3) := by decide +kernel
theorem dX3_recordsIn_40 : decode cX3_recordsIn 40 = .ok (.goto (-31), 3) := by decide +kernel
theorem dX3_recordsIn_43 : decode cX3_recordsIn 43 = .ok (.iload_n 3, 1) := by decide +kernel
theorem dX3_recordsIn_44 : decode cX3_recordsIn 44 = .ok (.ireturn, 1) := by decide +kernel
theorem dX3_sizesIn_0 : decode cX3_sizesIn 0 = .ok (.iconst 0, 1) := by decide +kernel
theorem dX3_sizesIn_1 : decode cX3_sizesIn 1 = .ok (.istore_n 3, 1) := by decide +kernel
theorem dX3_sizesIn_2 : decode cX3_sizesIn 2 = .ok (.iload_n 1, 1) := by decide +kernel
theorem dX3_sizesIn_3 : decode cX3_sizesIn 3 = .ok (.iconst 0, 1) := by decide +kernel
theorem dX3_sizesIn_4 : decode cX3_sizesIn 4 = .ok (.invokestatic 53, 3) := by decide +kernel
theorem dX3_sizesIn_7 : decode cX3_sizesIn 7 = .ok (.istore 4, 2) := by decide +kernel
theorem dX3_sizesIn_9 : decode cX3_sizesIn 9 = .ok (.iload 4, 2) := by decide +kernel
theorem dX3_sizesIn_11 : decode cX3_sizesIn 11 = .ok (.iload_n 2, 1) := by decide +kernel
theorem dX3_sizesIn_12 : decode cX3_sizesIn 12 = .ok (.if_icmp .ge 38, 3) := by decide +kernel
theorem dX3_sizesIn_15 : decode cX3_sizesIn 15 = .ok (.iload 4, 2) := by decide +kernel
theorem dX3_sizesIn_17 : decode cX3_sizesIn 17 = .ok (.aload_n 0, 1) := by decide +kernel
theorem dX3_sizesIn_18 : decode cX3_sizesIn 18 = .ok (.getfield 43, 3) := by decide +kernel
theorem dX3_sizesIn_21 : decode cX3_sizesIn 21 = .ok (.if_icmp .ge 29, 3) := by decide +kernel
theorem dX3_sizesIn_24 : decode cX3_sizesIn 24 = .ok (.aload_n 0, 1) := by decide +kernel
theorem dX3_sizesIn_25 : decode cX3_sizesIn 25 = .ok (.getfield 9, 3) := by decide +kernel
theorem dX3_sizesIn_28 : decode cX3_sizesIn 28 = .ok (.iload 4, 2) := by decide +kernel
theorem dX3_sizesIn_30 : decode cX3_sizesIn 30 = .ok (.iaload, 1) := by decide +kernel
theorem dX3_sizesIn_31 : decode cX3_sizesIn 31 = .ok (.ifCond .eq 13, 3) := by decide +kernel
theorem dX3_sizesIn_34 : decode cX3_sizesIn 34 = .ok (.iload_n 3, 1) := by decide +kernel
theorem dX3_sizesIn_35 : decode cX3_sizesIn 35 = .ok (.aload_n 0, 1) := by decide +kernel
theorem dX3_sizesIn_36 : decode cX3_sizesIn 36 = .ok (.getfield 21, 3) := by decide +kernel
theorem dX3_sizesIn_39 : decode cX3_sizesIn 39 = .ok (.iload 4, 2) := by decide +kernel
theorem dX3_sizesIn_41 : decode cX3_sizesIn 41 = .ok (.iaload, 1) := by decide +kernel
theorem dX3_sizesIn_42 : decode cX3_sizesIn 42 = .ok (.iadd, 1) := by decide +kernel
theorem dX3_sizesIn_43 : decode cX3_sizesIn 43 = .ok (.istore_n 3, 1) := by decide +kernel
theorem dX3_sizesIn_44 : decode cX3_sizesIn 44 = .ok (.iinc 4 1, 3) := by decide +kernel
theorem dX3_sizesIn_47 : decode cX3_sizesIn 47 = .ok (.goto (-38), 3) := by decide +kernel
theorem dX3_sizesIn_50 : decode cX3_sizesIn 50 = .ok (.iload_n 3, 1) := by decide +kernel
theorem dX3_sizesIn_51 : decode cX3_sizesIn 51 = .ok (.ireturn, 1) := by decide +kernel
theorem dX3_isClosed_0 : decode cX3_isClosed 0 = .ok (.iload_n 1, 1) := by decide +kernel
theorem dX3_isClosed_1 : decode cX3_isClosed 1 = .ok (.aload_n 0, 1) := by decide +kernel
theorem dX3_isClosed_2 : decode cX3_isClosed 2 = .ok (.getfield 33, 3) := by decide +kernel
theorem dX3_isClosed_5 : decode cX3_isClosed 5 = .ok (.iconst 1, 1) := by decide +kernel
theorem dX3_isClosed_6 : decode cX3_isClosed 6 = .ok (.isub, 1) := by decide +kernel
theorem dX3_isClosed_7 : decode cX3_isClosed 7 = .ok (.if_icmp .ge 7, 3) := by decide +kernel
theorem dX3_isClosed_10 : decode cX3_isClosed 10 = .ok (.iconst 1, 1) := by decide +kernel
theorem dX3_isClosed_11 : decode cX3_isClosed 11 = .ok (.goto 4, 3) := by decide +kernel
theorem dX3_isClosed_14 : decode cX3_isClosed 14 = .ok (.iconst 0, 1) := by decide +kernel
theorem dX3_isClosed_15 : decode cX3_isClosed 15 = .ok (.ireturn, 1) := by decide +kernel
theorem dX3_segmentEnd_0 : decode cX3_segmentEnd 0 = .ok (.aload_n 0, 1) := by decide +kernel
theorem dX3_segmentEnd_1 : decode cX3_segmentEnd 1 = .ok (.iload_n 1, 1) := by decide +kernel
theorem dX3_segmentEnd_2 : decode cX3_segmentEnd 2 = .ok (.invokevirtual 58, 3) := by decide +kernel
theorem dX3_segmentEnd_5 : decode cX3_segmentEnd 5 = .ok (.ifCond .eq 14, 3) := by decide +kernel
theorem dX3_segmentEnd_8 : decode cX3_segmentEnd 8 = .ok (.aload_n 0, 1) := by decide +kernel
theorem dX3_segmentEnd_9 : decode cX3_segmentEnd 9 = .ok (.getfield 27, 3) := by decide +kernel
theorem dX3_segmentEnd_12 : decode cX3_segmentEnd 12 = .ok (.iload_n 1, 1) := by decide +kernel
theorem dX3_segmentEnd_13 : decode cX3_segmentEnd 13 = .ok (.iconst 1, 1) := by decide +kernel
theorem dX3_segmentEnd_14 : decode cX3_segmentEnd 14 = .ok (.iadd, 1) := by decide +kernel
theorem dX3_segmentEnd_15 : decode cX3_segmentEnd 15 = .ok (.iaload, 1) := by decide +kernel
theorem dX3_segmentEnd_16 : decode cX3_segmentEnd 16 = .ok (.goto 7, 3) := by decide +kernel
theorem dX3_segmentEnd_19 : decode cX3_segmentEnd 19 = .ok (.aload_n 0, 1) := by decide +kernel
theorem dX3_segmentEnd_20 : decode cX3_segmentEnd 20 = .ok (.getfield 43, 3) := by decide +kernel
theorem dX3_segmentEnd_23 : decode cX3_segmentEnd 23 = .ok (.ireturn, 1) := by decide +kernel
theorem dX3_segmentOf_0 : decode cX3_segmentOf 0 = .ok (.iconst 0, 1) := by decide +kernel
theorem dX3_segmentOf_1 : decode cX3_segmentOf 1 = .ok (.istore_n 2, 1) := by decide +kernel
theorem dX3_segmentOf_2 : decode cX3_segmentOf 2 = .ok (.iload_n 2, 1) := by decide +kernel
theorem dX3_segmentOf_3 : decode cX3_segmentOf 3 = .ok (.aload_n 0, 1) := by decide +kernel
theorem dX3_segmentOf_4 : decode cX3_segmentOf 4 = .ok (.getfield 33, 3) := by decide +kernel
theorem dX3_segmentOf_7 : decode cX3_segmentOf 7 = .ok (.iconst 1, 1) := by decide +kernel
theorem dX3_segmentOf_8 : decode cX3_segmentOf 8 = .ok (.isub, 1) := by decide +kernel
theorem dX3_segmentOf_9 : decode cX3_segmentOf 9 = .ok (.if_icmp .ge 21, 3) := by decide +kernel
theorem dX3_segmentOf_12 : decode cX3_segmentOf 12 = .ok (.aload_n 0, 1) := by decide +kernel
theorem dX3_segmentOf_13 : decode cX3_segmentOf 13 = .ok (.getfield 27, 3) := by decide +kernel
theorem dX3_segmentOf_16 : decode cX3_segmentOf 16 = .ok (.iload_n 2, 1) := by decide +kernel
theorem dX3_segmentOf_17 : decode cX3_segmentOf 17 = .ok (.iconst 1, 1) := by decide +kernel
theorem dX3_segmentOf_18 : decode cX3_segmentOf 18 = .ok (.iadd, 1) := by decide +kernel
theorem dX3_segmentOf_19 : decode cX3_segmentOf 19 = .ok (.iaload, 1) := by decide +kernel
theorem dX3_segmentOf_20 : decode cX3_segmentOf 20 = .ok (.iload_n 1, 1) := by decide +kernel
theorem dX3_segmentOf_21 : decode cX3_segmentOf 21 = .ok (.if_icmp .gt 9, 3) := by decide +kernel
theorem dX3_segmentOf_24 : decode cX3_segmentOf 24 = .ok (.iinc 2 1, 3) := by decide +kernel
theorem dX3_segmentOf_27 : decode cX3_segmentOf 27 = .ok (.goto (-25), 3) := by decide +kernel
theorem dX3_segmentOf_30 : decode cX3_segmentOf 30 = .ok (.iload_n 2, 1) := by decide +kernel
theorem dX3_segmentOf_31 : decode cX3_segmentOf 31 = .ok (.ireturn, 1) := by decide +kernel
theorem dX3_atOrBefore_0 : decode cX3_atOrBefore 0 = .ok (.iload_n 1, 1) := by decide +kernel
theorem dX3_atOrBefore_1 : decode cX3_atOrBefore 1 = .ok (.aload_n 0, 1) := by decide +kernel
theorem dX3_atOrBefore_2 : decode cX3_atOrBefore 2 = .ok (.getfield 43, 3) := by decide +kernel
theorem dX3_atOrBefore_5 : decode cX3_atOrBefore 5 = .ok (.iconst 1, 1) := by decide +kernel
theorem dX3_atOrBefore_6 : decode cX3_atOrBefore 6 = .ok (.isub, 1) := by decide +kernel
theorem dX3_atOrBefore_7 : decode cX3_atOrBefore 7 = .ok (.invokestatic 62, 3) := by decide +kernel
theorem dX3_atOrBefore_10 : decode cX3_atOrBefore 10 = .ok (.istore_n 2, 1) := by decide +kernel
theorem dX3_atOrBefore_11 : decode cX3_atOrBefore 11 = .ok (.iload_n 2, 1) := by decide +kernel
theorem dX3_atOrBefore_12 : decode cX3_atOrBefore 12 = .ok (.ifCond .lt 20, 3) := by decide +kernel
theorem dX3_atOrBefore_15 : decode cX3_atOrBefore 15 = .ok (.aload_n 0, 1) := by decide +kernel
theorem dX3_atOrBefore_16 : decode cX3_atOrBefore 16 = .ok (.getfield 9, 3) := by decide +kernel
theorem dX3_atOrBefore_19 : decode cX3_atOrBefore 19 = .ok (.iload_n 2, 1) := by decide +kernel
theorem dX3_atOrBefore_20 : decode cX3_atOrBefore 20 = .ok (.iaload, 1) := by decide +kernel
theorem dX3_atOrBefore_21 : decode cX3_atOrBefore 21 = .ok (.ifCond .eq 5, 3) := by decide +kernel
theorem dX3_atOrBefore_24 : decode cX3_atOrBefore 24 = .ok (.iload_n 2, 1) := by decide +kernel
theorem dX3_atOrBefore_25 : decode cX3_atOrBefore 25 = .ok (.ireturn, 1) := by decide +kernel
theorem dX3_atOrBefore_26 : decode cX3_atOrBefore 26 = .ok (.iinc 2 (-1), 3) := by decide +kernel
theorem dX3_atOrBefore_29 : decode cX3_atOrBefore 29 = .ok (.goto (-18), 3) := by decide +kernel
theorem dX3_atOrBefore_32 : decode cX3_atOrBefore 32 = .ok (.bipush (-5), 2) := by decide +kernel
theorem dX3_atOrBefore_34 : decode cX3_atOrBefore 34 = .ok (.ireturn, 1) := by decide +kernel
theorem dX3_atOrBehind_0 : decode cX3_atOrBehind 0 = .ok (.iload_n 1, 1) := by decide +kernel
theorem dX3_atOrBehind_1 : decode cX3_atOrBehind 1 = .ok (.iconst 0, 1) := by decide +kernel
theorem dX3_atOrBehind_2 : decode cX3_atOrBehind 2 = .ok (.invokestatic 53, 3) := by decide +kernel
theorem dX3_atOrBehind_5 : decode cX3_atOrBehind 5 = .ok (.istore_n 2, 1) := by decide +kernel
theorem dX3_atOrBehind_6 : decode cX3_atOrBehind 6 = .ok (.iload_n 2, 1) := by decide +kernel
theorem dX3_atOrBehind_7 : decode cX3_atOrBehind 7 = .ok (.aload_n 0, 1) := by decide +kernel
theorem dX3_atOrBehind_8 : decode cX3_atOrBehind 8 = .ok (.getfield 43, 3) := by decide +kernel
theorem dX3_atOrBehind_11 : decode cX3_atOrBehind 11 = .ok (.if_icmp .ge 20, 3) := by decide +kernel
theorem dX3_atOrBehind_14 : decode cX3_atOrBehind 14 = .ok (.aload_n 0, 1) := by decide +kernel
theorem dX3_atOrBehind_15 : decode cX3_atOrBehind 15 = .ok (.getfield 9, 3) := by decide +kernel
theorem dX3_atOrBehind_18 : decode cX3_atOrBehind 18 = .ok (.iload_n 2, 1) := by decide +kernel
theorem dX3_atOrBehind_19 : decode cX3_atOrBehind 19 = .ok (.iaload, 1) := by decide +kernel
theorem dX3_atOrBehind_20 : decode cX3_atOrBehind 20 = .ok (.ifCond .eq 5, 3) := by decide +kernel
theorem dX3_atOrBehind_23 : decode cX3_atOrBehind 23 = .ok (.iload_n 2, 1) := by decide +kernel
theorem dX3_atOrBehind_24 : decode cX3_atOrBehind 24 = .ok (.ireturn, 1) := by decide +kernel
theorem dX3_atOrBehind_25 : decode cX3_atOrBehind 25 = .ok (.iinc 2 1, 3) := by decide +kernel
theorem dX3_atOrBehind_28 : decode cX3_atOrBehind 28 = .ok (.goto (-22), 3) := by decide +kernel
theorem dX3_atOrBehind_31 : decode cX3_atOrBehind 31 = .ok (.bipush (-5), 2) := by decide +kernel
theorem dX3_atOrBehind_33 : decode cX3_atOrBehind 33 = .ok (.ireturn, 1) := by decide +kernel
theorem dX3_compacted_0 : decode cX3_compacted 0 = .ok (.aload_n 0, 1) := by decide +kernel
theorem dX3_compacted_1 : decode cX3_compacted 1 = .ok (.aload_n 0, 1) := by decide +kernel
theorem dX3_compacted_2 : decode cX3_compacted 2 = .ok (.getfield 43, 3) := by decide +kernel
theorem dX3_compacted_5 : decode cX3_compacted 5 = .ok (.invokevirtual 65, 3) := by decide +kernel
theorem dX3_compacted_8 : decode cX3_compacted 8 = .ok (.iconst 0, 1) := by decide +kernel
theorem dX3_compacted_9 : decode cX3_compacted 9 = .ok (.istore_n 3, 1) := by decide +kernel
theorem dX3_compacted_10 : decode cX3_compacted 10 = .ok (.iconst 0, 1) := by decide +kernel
theorem dX3_compacted_11 : decode cX3_compacted 11 = .ok (.istore 4, 2) := by decide +kernel
theorem dX3_compacted_13 : decode cX3_compacted 13 = .ok (.iload 4, 2) := by decide +kernel
theorem dX3_compacted_15 : decode cX3_compacted 15 = .ok (.aload_n 0, 1) := by decide +kernel
theorem dX3_compacted_16 : decode cX3_compacted 16 = .ok (.getfield 27, 3) := by decide +kernel
theorem dX3_compacted_19 : decode cX3_compacted 19 = .ok (.aload_n 0, 1) := by decide +kernel
theorem dX3_compacted_20 : decode cX3_compacted 20 = .ok (.getfield 33, 3) := by decide +kernel
theorem dX3_compacted_23 : decode cX3_compacted 23 = .ok (.iconst 1, 1) := by decide +kernel
theorem dX3_compacted_24 : decode cX3_compacted 24 = .ok (.isub, 1) := by decide +kernel
theorem dX3_compacted_25 : decode cX3_compacted 25 = .ok (.iaload, 1) := by decide +kernel
theorem dX3_compacted_26 : decode cX3_compacted 26 = .ok (.if_icmp .ge 31, 3) := by decide +kernel
theorem dX3_compacted_29 : decode cX3_compacted 29 = .ok (.aload_n 0, 1) := by decide +kernel
theorem dX3_compacted_30 : decode cX3_compacted 30 = .ok (.iload 4, 2) := by decide +kernel
theorem dX3_compacted_32 : decode cX3_compacted 32 = .ok (.iload_n 1, 1) := by decide +kernel
theorem dX3_compacted_33 : decode cX3_compacted 33 = .ok (.iload_n 2, 1) := by decide +kernel
theorem dX3_compacted_34 : decode cX3_compacted 34 = .ok (.invokevirtual 69, 3) := by decide +kernel
theorem dX3_compacted_37 : decode cX3_compacted 37 = .ok (.ifCond .eq 14, 3) := by decide +kernel
theorem dX3_compacted_40 : decode cX3_compacted 40 = .ok (.aload_n 0, 1) := by decide +kernel
theorem dX3_compacted_41 : decode cX3_compacted 41 = .ok (.getfield 9, 3) := by decide +kernel
theorem dX3_compacted_44 : decode cX3_compacted 44 = .ok (.iload 4, 2) := by decide +kernel
theorem dX3_compacted_46 : decode cX3_compacted 46 = .ok (.iconst 0, 1) := by decide +kernel
theorem dX3_compacted_47 : decode cX3_compacted 47 = .ok (.iastore, 1) := by decide +kernel
theorem dX3_compacted_48 : decode cX3_compacted 48 = .ok (.iinc 3 1, 3) := by decide +kernel
theorem dX3_compacted_51 : decode cX3_compacted 51 = .ok (.iinc 4 1, 3) := by decide +kernel
theorem dX3_compacted_54 : decode cX3_compacted 54 = .ok (.goto (-41), 3) := by decide +kernel
theorem dX3_compacted_57 : decode cX3_compacted 57 = .ok (.aload_n 0, 1) := by decide +kernel
theorem dX3_compacted_58 : decode cX3_compacted 58 = .ok (.invokevirtual 73, 3) := by decide +kernel
theorem dX3_compacted_61 : decode cX3_compacted 61 = .ok (.iload_n 3, 1) := by decide +kernel
theorem dX3_compacted_62 : decode cX3_compacted 62 = .ok (.ireturn, 1) := by decide +kernel
theorem dX3_goneIfCompacted_0 : decode cX3_goneIfCompacted 0 = .ok (.aload_n 0, 1) := by decide +kernel
theorem dX3_goneIfCompacted_1 : decode cX3_goneIfCompacted 1 = .ok (.aload_n 0, 1) := by decide +kernel
theorem dX3_goneIfCompacted_2 : decode cX3_goneIfCompacted 2 = .ok (.getfield 43, 3) := by decide +kernel
theorem dX3_goneIfCompacted_5 : decode cX3_goneIfCompacted 5 = .ok (.invokevirtual 65, 3) := by decide +kernel
theorem dX3_goneIfCompacted_8 : decode cX3_goneIfCompacted 8 = .ok (.iconst 0, 1) := by decide +kernel
theorem dX3_goneIfCompacted_9 : decode cX3_goneIfCompacted 9 = .ok (.istore_n 3, 1) := by decide +kernel
theorem dX3_goneIfCompacted_10 : decode cX3_goneIfCompacted 10 = .ok (.iconst 0, 1) := by decide +kernel
theorem dX3_goneIfCompacted_11 : decode cX3_goneIfCompacted 11 = .ok (.istore 4, 2) := by decide +kernel
theorem dX3_goneIfCompacted_13 : decode cX3_goneIfCompacted 13 = .ok (.iload 4, 2) := by decide +kernel
theorem dX3_goneIfCompacted_15 : decode cX3_goneIfCompacted 15 = .ok (.aload_n 0, 1) := by decide +kernel
theorem dX3_goneIfCompacted_16 : decode cX3_goneIfCompacted 16 = .ok (.getfield 27, 3) := by decide +kernel
theorem dX3_goneIfCompacted_19 : decode cX3_goneIfCompacted 19 = .ok (.aload_n 0, 1) := by decide +kernel
theorem dX3_goneIfCompacted_20 : decode cX3_goneIfCompacted 20 = .ok (.getfield 33, 3) := by decide +kernel
theorem dX3_goneIfCompacted_23 : decode cX3_goneIfCompacted 23 = .ok (.iconst 1, 1) := by decide +kernel
theorem dX3_goneIfCompacted_24 : decode cX3_goneIfCompacted 24 = .ok (.isub, 1) := by decide +kernel
theorem dX3_goneIfCompacted_25 : decode cX3_goneIfCompacted 25 = .ok (.iaload, 1) := by decide +kernel
theorem dX3_goneIfCompacted_26 : decode cX3_goneIfCompacted 26 = .ok (.if_icmp .ge 23, 3) := by decide +kernel
theorem dX3_goneIfCompacted_29 : decode cX3_goneIfCompacted 29 = .ok (.aload_n 0, 1) := by decide +kernel
theorem dX3_goneIfCompacted_30 : decode cX3_goneIfCompacted 30 = .ok (.iload 4, 2) := by decide +kernel
theorem dX3_goneIfCompacted_32 : decode cX3_goneIfCompacted 32 = .ok (.iload_n 1, 1) := by decide +kernel
theorem dX3_goneIfCompacted_33 : decode cX3_goneIfCompacted 33 = .ok (.iload_n 2, 1) := by decide +kernel
theorem dX3_goneIfCompacted_34 : decode cX3_goneIfCompacted 34 = .ok (.invokevirtual 69, 3) := by decide +kernel
theorem dX3_goneIfCompacted_37 : decode cX3_goneIfCompacted 37 = .ok (.ifCond .eq 6, 3) := by decide +kernel
theorem dX3_goneIfCompacted_40 : decode cX3_goneIfCompacted 40 = .ok (.iinc 3 1, 3) := by decide +kernel
theorem dX3_goneIfCompacted_43 : decode cX3_goneIfCompacted 43 = .ok (.iinc 4 1, 3) := by decide +kernel
theorem dX3_goneIfCompacted_46 : decode cX3_goneIfCompacted 46 = .ok (.goto (-33), 3) := by decide +kernel
theorem dX3_goneIfCompacted_49 : decode cX3_goneIfCompacted 49 = .ok (.iload_n 3, 1) := by decide +kernel
theorem dX3_goneIfCompacted_50 : decode cX3_goneIfCompacted 50 = .ok (.ireturn, 1) := by decide +kernel
theorem dX3_goesCompacted_0 : decode cX3_goesCompacted 0 = .ok (.aload_n 0, 1) := by decide +kernel
theorem dX3_goesCompacted_1 : decode cX3_goesCompacted 1 = .ok (.getfield 9, 3) := by decide +kernel
theorem dX3_goesCompacted_4 : decode cX3_goesCompacted 4 = .ok (.iload_n 1, 1) := by decide +kernel
theorem dX3_goesCompacted_5 : decode cX3_goesCompacted 5 = .ok (.iaload, 1) := by decide +kernel
theorem dX3_goesCompacted_6 : decode cX3_goesCompacted 6 = .ok (.ifCond .ne 5, 3) := by decide +kernel
theorem dX3_goesCompacted_9 : decode cX3_goesCompacted 9 = .ok (.iconst 0, 1) := by decide +kernel
theorem dX3_goesCompacted_10 : decode cX3_goesCompacted 10 = .ok (.ireturn, 1) := by decide +kernel
theorem dX3_goesCompacted_11 : decode cX3_goesCompacted 11 = .ok (.aload_n 0, 1) := by decide +kernel
theorem dX3_goesCompacted_12 : decode cX3_goesCompacted 12 = .ok (.getfield 30, 3) := by decide +kernel
theorem dX3_goesCompacted_15 : decode cX3_goesCompacted 15 = .ok (.aload_n 0, 1) := by decide +kernel
theorem dX3_goesCompacted_16 : decode cX3_goesCompacted 16 = .ok (.getfield 15, 3) := by decide +kernel
theorem dX3_goesCompacted_19 : decode cX3_goesCompacted 19 = .ok (.iload_n 1, 1) := by decide +kernel
theorem dX3_goesCompacted_20 : decode cX3_goesCompacted 20 = .ok (.iaload, 1) := by decide +kernel
theorem dX3_goesCompacted_21 : decode cX3_goesCompacted 21 = .ok (.iaload, 1) := by decide +kernel
theorem dX3_goesCompacted_22 : decode cX3_goesCompacted 22 = .ok (.iload_n 1, 1) := by decide +kernel
theorem dX3_goesCompacted_23 : decode cX3_goesCompacted 23 = .ok (.if_icmp .gt 25, 3) := by decide +kernel
theorem dX3_goesCompacted_26 : decode cX3_goesCompacted 26 = .ok (.aload_n 0, 1) := by decide +kernel
theorem dX3_goesCompacted_27 : decode cX3_goesCompacted 27 = .ok (.getfield 9, 3) := by decide +kernel
theorem dX3_goesCompacted_30 : decode cX3_goesCompacted 30 = .ok (.iload_n 1, 1) := by decide +kernel
theorem dX3_goesCompacted_31 : decode cX3_goesCompacted 31 = .ok (.iaload, 1) := by decide +kernel
theorem dX3_goesCompacted_32 : decode cX3_goesCompacted 32 = .ok (.iconst 2, 1) := by decide +kernel
theorem dX3_goesCompacted_33 : decode cX3_goesCompacted 33 = .ok (.if_icmp .ne 19, 3) := by decide +kernel
theorem dX3_goesCompacted_36 : decode cX3_goesCompacted 36 = .ok (.iload_n 2, 1) := by decide +kernel
theorem dX3_goesCompacted_37 : decode cX3_goesCompacted 37 = .ok (.aload_n 0, 1) := by decide +kernel
theorem dX3_goesCompacted_38 : decode cX3_goesCompacted 38 = .ok (.getfield 18, 3) := by decide +kernel
theorem dX3_goesCompacted_41 : decode cX3_goesCompacted 41 = .ok (.iload_n 1, 1) := by decide +kernel
theorem dX3_goesCompacted_42 : decode cX3_goesCompacted 42 = .ok (.iaload, 1) := by decide +kernel
theorem dX3_goesCompacted_43 : decode cX3_goesCompacted 43 = .ok (.isub, 1) := by decide +kernel
theorem dX3_goesCompacted_44 : decode cX3_goesCompacted 44 = .ok (.iload_n 3, 1) := by decide +kernel
theorem dX3_goesCompacted_45 : decode cX3_goesCompacted 45 = .ok (.if_icmp .lt 7, 3) := by decide +kernel
theorem dX3_goesCompacted_48 : decode cX3_goesCompacted 48 = .ok (.iconst 1, 1) := by decide +kernel
theorem dX3_goesCompacted_49 : decode cX3_goesCompacted 49 = .ok (.goto 4, 3) := by decide +kernel
theorem dX3_goesCompacted_52 : decode cX3_goesCompacted 52 = .ok (.iconst 0, 1) := by decide +kernel
theorem dX3_goesCompacted_53 : decode cX3_goesCompacted 53 = .ok (.ireturn, 1) := by decide +kernel
theorem dX3_joinSegments_0 : decode cX3_joinSegments 0 = .ok (.iconst 0, 1) := by decide +kernel
theorem dX3_joinSegments_1 : decode cX3_joinSegments 1 = .ok (.istore_n 1, 1) := by decide +kernel
theorem dX3_joinSegments_2 : decode cX3_joinSegments 2 = .ok (.aload_n 0, 1) := by decide +kernel
theorem dX3_joinSegments_3 : decode cX3_joinSegments 3 = .ok (.getfield 33, 3) := by decide +kernel
theorem dX3_joinSegments_6 : decode cX3_joinSegments 6 = .ok (.istore_n 2, 1) := by decide +kernel
theorem dX3_joinSegments_7 : decode cX3_joinSegments 7 = .ok (.iload_n 2, 1) := by decide +kernel
theorem dX3_joinSegments_8 : decode cX3_joinSegments 8 = .ok (.ifCond .le 41, 3) := by decide +kernel
theorem dX3_joinSegments_11 : decode cX3_joinSegments 11 = .ok (.aload_n 0, 1) := by decide +kernel
theorem dX3_joinSegments_12 : decode cX3_joinSegments 12 = .ok (.iload_n 1, 1) := by decide +kernel
theorem dX3_joinSegments_13 : decode cX3_joinSegments 13 = .ok (.iconst 1, 1) := by decide +kernel
theorem dX3_joinSegments_14 : decode cX3_joinSegments 14 = .ok (.iadd, 1) := by decide +kernel
theorem dX3_joinSegments_15 : decode cX3_joinSegments 15 = .ok (.invokevirtual 58, 3) := by decide +kernel
theorem dX3_joinSegments_18 : decode cX3_joinSegments 18 = .ok (.ifCond .eq 31, 3) := by decide +kernel
theorem dX3_joinSegments_21 : decode cX3_joinSegments 21 = .ok (.aload_n 0, 1) := by decide +kernel
theorem dX3_joinSegments_22 : decode cX3_joinSegments 22 = .ok (.iload_n 1, 1) := by decide +kernel
theorem dX3_joinSegments_23 : decode cX3_joinSegments 23 = .ok (.invokevirtual 76, 3) := by decide +kernel
theorem dX3_joinSegments_26 : decode cX3_joinSegments 26 = .ok (.ifCond .eq 14, 3) := by decide +kernel
theorem dX3_joinSegments_29 : decode cX3_joinSegments 29 = .ok (.aload_n 0, 1) := by decide +kernel
theorem dX3_joinSegments_30 : decode cX3_joinSegments 30 = .ok (.iload_n 1, 1) := by decide +kernel
theorem dX3_joinSegments_31 : decode cX3_joinSegments 31 = .ok (.iconst 1, 1) := by decide +kernel
theorem dX3_joinSegments_32 : decode cX3_joinSegments 32 = .ok (.iadd, 1) := by decide +kernel
theorem dX3_joinSegments_33 : decode cX3_joinSegments 33 = .ok (.iconst 1, 1) := by decide +kernel
theorem dX3_joinSegments_34 : decode cX3_joinSegments 34 = .ok (.invokevirtual 79, 3) := by decide +kernel
theorem dX3_joinSegments_37 : decode cX3_joinSegments 37 = .ok (.goto 6, 3) := by decide +kernel
theorem dX3_joinSegments_40 : decode cX3_joinSegments 40 = .ok (.iinc 1 1, 3) := by decide +kernel
theorem dX3_joinSegments_43 : decode cX3_joinSegments 43 = .ok (.iinc 2 (-1), 3) := by decide +kernel
theorem dX3_joinSegments_46 : decode cX3_joinSegments 46 = .ok (.goto (-39), 3) := by decide +kernel
theorem dX3_joinSegments_49 : decode cX3_joinSegments 49 = .ok (.return_, 1) := by decide +kernel
theorem dX3_fitTogether_0 : decode cX3_fitTogether 0 = .ok (.aload_n 0, 1) := by decide +kernel
theorem dX3_fitTogether_1 : decode cX3_fitTogether 1 = .ok (.getfield 27, 3) := by decide +kernel
theorem dX3_fitTogether_4 : decode cX3_fitTogether 4 = .ok (.iload_n 1, 1) := by decide +kernel
theorem dX3_fitTogether_5 : decode cX3_fitTogether 5 = .ok (.iaload, 1) := by decide +kernel
theorem dX3_fitTogether_6 : decode cX3_fitTogether 6 = .ok (.istore_n 2, 1) := by decide +kernel
theorem dX3_fitTogether_7 : decode cX3_fitTogether 7 = .ok (.aload_n 0, 1) := by decide +kernel
theorem dX3_fitTogether_8 : decode cX3_fitTogether 8 = .ok (.iload_n 1, 1) := by decide +kernel
theorem dX3_fitTogether_9 : decode cX3_fitTogether 9 = .ok (.iconst 1, 1) := by decide +kernel
theorem dX3_fitTogether_10 : decode cX3_fitTogether 10 = .ok (.iadd, 1) := by decide +kernel
theorem dX3_fitTogether_11 : decode cX3_fitTogether 11 = .ok (.invokevirtual 83, 3) := by decide +kernel
theorem dX3_fitTogether_14 : decode cX3_fitTogether 14 = .ok (.istore_n 3, 1) := by decide +kernel
theorem dX3_fitTogether_15 : decode cX3_fitTogether 15 = .ok (.aload_n 0, 1) := by decide +kernel
theorem dX3_fitTogether_16 : decode cX3_fitTogether 16 = .ok (.iload_n 2, 1) := by decide +kernel
theorem dX3_fitTogether_17 : decode cX3_fitTogether 17 = .ok (.iload_n 3, 1) := by decide +kernel
theorem dX3_fitTogether_18 : decode cX3_fitTogether 18 = .ok (.invokevirtual 50, 3) := by decide +kernel
theorem dX3_fitTogether_21 : decode cX3_fitTogether 21 = .ok (.bipush 20, 2) := by decide +kernel
theorem dX3_fitTogether_23 : decode cX3_fitTogether 23 = .ok (.if_icmp .gt 18, 3) := by decide +kernel
theorem dX3_fitTogether_26 : decode cX3_fitTogether 26 = .ok (.aload_n 0, 1) := by decide +kernel
theorem dX3_fitTogether_27 : decode cX3_fitTogether 27 = .ok (.iload_n 2, 1) := by decide +kernel
theorem dX3_fitTogether_28 : decode cX3_fitTogether 28 = .ok (.iload_n 3, 1) := by decide +kernel
theorem dX3_fitTogether_29 : decode cX3_fitTogether 29 = .ok (.invokevirtual 46, 3) := by decide +kernel
theorem dX3_fitTogether_32 : decode cX3_fitTogether 32 = .ok (.bipush 8, 2) := by decide +kernel
theorem dX3_fitTogether_34 : decode cX3_fitTogether 34 = .ok (.if_icmp .gt 7, 3) := by decide +kernel
theorem dX3_fitTogether_37 : decode cX3_fitTogether 37 = .ok (.iconst 1, 1) := by decide +kernel
theorem dX3_fitTogether_38 : decode cX3_fitTogether 38 = .ok (.goto 4, 3) := by decide +kernel
theorem dX3_fitTogether_41 : decode cX3_fitTogether 41 = .ok (.iconst 0, 1) := by decide +kernel
theorem dX3_fitTogether_42 : decode cX3_fitTogether 42 = .ok (.ireturn, 1) := by decide +kernel
theorem dX3_dropBases_0 : decode cX3_dropBases 0 = .ok (.aload_n 0, 1) := by decide +kernel
theorem dX3_dropBases_1 : decode cX3_dropBases 1 = .ok (.dup, 1) := by decide +kernel
theorem dX3_dropBases_2 : decode cX3_dropBases 2 = .ok (.getfield 33, 3) := by decide +kernel
theorem dX3_dropBases_5 : decode cX3_dropBases 5 = .ok (.iload_n 2, 1) := by decide +kernel
theorem dX3_dropBases_6 : decode cX3_dropBases 6 = .ok (.isub, 1) := by decide +kernel
theorem dX3_dropBases_7 : decode cX3_dropBases 7 = .ok (.putfield 33, 3) := by decide +kernel
theorem dX3_dropBases_10 : decode cX3_dropBases 10 = .ok (.iload_n 1, 1) := by decide +kernel
theorem dX3_dropBases_11 : decode cX3_dropBases 11 = .ok (.istore_n 3, 1) := by decide +kernel
theorem dX3_dropBases_12 : decode cX3_dropBases 12 = .ok (.iload_n 3, 1) := by decide +kernel
theorem dX3_dropBases_13 : decode cX3_dropBases 13 = .ok (.aload_n 0, 1) := by decide +kernel
theorem dX3_dropBases_14 : decode cX3_dropBases 14 = .ok (.getfield 33, 3) := by decide +kernel
theorem dX3_dropBases_17 : decode cX3_dropBases 17 = .ok (.if_icmp .ge 23, 3) := by decide +kernel
theorem dX3_dropBases_20 : decode cX3_dropBases 20 = .ok (.aload_n 0, 1) := by decide +kernel
theorem dX3_dropBases_21 : decode cX3_dropBases 21 = .ok (.getfield 27, 3) := by decide +kernel
theorem dX3_dropBases_24 : decode cX3_dropBases 24 = .ok (.iload_n 3, 1) := by decide +kernel
theorem dX3_dropBases_25 : decode cX3_dropBases 25 = .ok (.aload_n 0, 1) := by decide +kernel
theorem dX3_dropBases_26 : decode cX3_dropBases 26 = .ok (.getfield 27, 3) := by decide +kernel
theorem dX3_dropBases_29 : decode cX3_dropBases 29 = .ok (.iload_n 3, 1) := by decide +kernel
theorem dX3_dropBases_30 : decode cX3_dropBases 30 = .ok (.iload_n 2, 1) := by decide +kernel
theorem dX3_dropBases_31 : decode cX3_dropBases 31 = .ok (.iadd, 1) := by decide +kernel
theorem dX3_dropBases_32 : decode cX3_dropBases 32 = .ok (.iaload, 1) := by decide +kernel
theorem dX3_dropBases_33 : decode cX3_dropBases 33 = .ok (.iastore, 1) := by decide +kernel
theorem dX3_dropBases_34 : decode cX3_dropBases 34 = .ok (.iinc 3 1, 3) := by decide +kernel
theorem dX3_dropBases_37 : decode cX3_dropBases 37 = .ok (.goto (-25), 3) := by decide +kernel
theorem dX3_dropBases_40 : decode cX3_dropBases 40 = .ok (.return_, 1) := by decide +kernel
theorem dX3_retained_0 : decode cX3_retained 0 = .ok (.aload_n 0, 1) := by decide +kernel
theorem dX3_retained_1 : decode cX3_retained 1 = .ok (.iload_n 1, 1) := by decide +kernel
theorem dX3_retained_2 : decode cX3_retained 2 = .ok (.iload_n 2, 1) := by decide +kernel
theorem dX3_retained_3 : decode cX3_retained 3 = .ok (.iload_n 3, 1) := by decide +kernel
theorem dX3_retained_4 : decode cX3_retained 4 = .ok (.invokevirtual 87, 3) := by decide +kernel
theorem dX3_retained_7 : decode cX3_retained 7 = .ok (.istore 4, 2) := by decide +kernel
theorem dX3_retained_9 : decode cX3_retained 9 = .ok (.aload_n 0, 1) := by decide +kernel
theorem dX3_retained_10 : decode cX3_retained 10 = .ok (.getfield 27, 3) := by decide +kernel
theorem dX3_retained_13 : decode cX3_retained 13 = .ok (.iload 4, 2) := by decide +kernel
theorem dX3_retained_15 : decode cX3_retained 15 = .ok (.iaload, 1) := by decide +kernel
theorem dX3_retained_16 : decode cX3_retained 16 = .ok (.istore 5, 2) := by decide +kernel
theorem dX3_retained_18 : decode cX3_retained 18 = .ok (.aload_n 0, 1) := by decide +kernel
theorem dX3_retained_19 : decode cX3_retained 19 = .ok (.iconst 0, 1) := by decide +kernel
theorem dX3_retained_20 : decode cX3_retained 20 = .ok (.iload 5, 2) := by decide +kernel
theorem dX3_retained_22 : decode cX3_retained 22 = .ok (.invokevirtual 46, 3) := by decide +kernel
theorem dX3_retained_25 : decode cX3_retained 25 = .ok (.istore 6, 2) := by decide +kernel
theorem dX3_retained_27 : decode cX3_retained 27 = .ok (.iconst 0, 1) := by decide +kernel
theorem dX3_retained_28 : decode cX3_retained 28 = .ok (.istore 7, 2) := by decide +kernel
theorem dX3_retained_30 : decode cX3_retained 30 = .ok (.iload 7, 2) := by decide +kernel
theorem dX3_retained_32 : decode cX3_retained 32 = .ok (.iload 5, 2) := by decide +kernel
theorem dX3_retained_34 : decode cX3_retained 34 = .ok (.if_icmp .ge 17, 3) := by decide +kernel
theorem dX3_retained_37 : decode cX3_retained 37 = .ok (.aload_n 0, 1) := by decide +kernel
theorem dX3_retained_38 : decode cX3_retained 38 = .ok (.getfield 9, 3) := by decide +kernel
theorem dX3_retained_41 : decode cX3_retained 41 = .ok (.iload 7, 2) := by decide +kernel
theorem dX3_retained_43 : decode cX3_retained 43 = .ok (.iconst 0, 1) := by decide +kernel
theorem dX3_retained_44 : decode cX3_retained 44 = .ok (.iastore, 1) := by decide +kernel
theorem dX3_retained_45 : decode cX3_retained 45 = .ok (.iinc 7 1, 3) := by decide +kernel
theorem dX3_retained_48 : decode cX3_retained 48 = .ok (.goto (-18), 3) := by decide +kernel
theorem dX3_retained_51 : decode cX3_retained 51 = .ok (.aload_n 0, 1) := by decide +kernel
theorem dX3_retained_52 : decode cX3_retained 52 = .ok (.iconst 0, 1) := by decide +kernel
theorem dX3_retained_53 : decode cX3_retained 53 = .ok (.iload 4, 2) := by decide +kernel
theorem dX3_retained_55 : decode cX3_retained 55 = .ok (.invokevirtual 79, 3) := by decide +kernel
theorem dX3_retained_58 : decode cX3_retained 58 = .ok (.iload 6, 2) := by decide +kernel
theorem dX3_retained_60 : decode cX3_retained 60 = .ok (.ireturn, 1) := by decide +kernel
theorem dX3_goneIfRetained_0 : decode cX3_goneIfRetained 0 = .ok (.aload_n 0, 1) := by decide +kernel
theorem dX3_goneIfRetained_1 : decode cX3_goneIfRetained 1 = .ok (.iconst 0, 1) := by decide +kernel
theorem dX3_goneIfRetained_2 : decode cX3_goneIfRetained 2 = .ok (.aload_n 0, 1) := by decide +kernel
theorem dX3_goneIfRetained_3 : decode cX3_goneIfRetained 3 = .ok (.getfield 27, 3) := by decide +kernel
theorem dX3_goneIfRetained_6 : decode cX3_goneIfRetained 6 = .ok (.aload_n 0, 1) := by decide +kernel
theorem dX3_goneIfRetained_7 : decode cX3_goneIfRetained 7 = .ok (.iload_n 1, 1) := by decide +kernel
theorem dX3_goneIfRetained_8 : decode cX3_goneIfRetained 8 = .ok (.iload_n 2, 1) := by decide +kernel
theorem dX3_goneIfRetained_9 : decode cX3_goneIfRetained 9 = .ok (.iload_n 3, 1) := by decide +kernel
theorem dX3_goneIfRetained_10 : decode cX3_goneIfRetained 10 = .ok (.invokevirtual 87, 3) := by decide +kernel
theorem dX3_goneIfRetained_13 : decode cX3_goneIfRetained 13 = .ok (.iaload, 1) := by decide +kernel
theorem dX3_goneIfRetained_14 : decode cX3_goneIfRetained 14 = .ok (.invokevirtual 46, 3) := by decide +kernel
theorem dX3_goneIfRetained_17 : decode cX3_goneIfRetained 17 = .ok (.ireturn, 1) := by decide +kernel
theorem dX3_leftIfRetained_0 : decode cX3_leftIfRetained 0 = .ok (.aload_n 0, 1) := by decide +kernel
theorem dX3_leftIfRetained_1 : decode cX3_leftIfRetained 1 = .ok (.aload_n 0, 1) := by decide +kernel
theorem dX3_leftIfRetained_2 : decode cX3_leftIfRetained 2 = .ok (.getfield 27, 3) := by decide +kernel
theorem dX3_leftIfRetained_5 : decode cX3_leftIfRetained 5 = .ok (.aload_n 0, 1) := by decide +kernel
theorem dX3_leftIfRetained_6 : decode cX3_leftIfRetained 6 = .ok (.iload_n 1, 1) := by decide +kernel
theorem dX3_leftIfRetained_7 : decode cX3_leftIfRetained 7 = .ok (.iload_n 2, 1) := by decide +kernel
theorem dX3_leftIfRetained_8 : decode cX3_leftIfRetained 8 = .ok (.iload_n 3, 1) := by decide +kernel
theorem dX3_leftIfRetained_9 : decode cX3_leftIfRetained 9 = .ok (.invokevirtual 87, 3) := by decide +kernel
theorem dX3_leftIfRetained_12 : decode cX3_leftIfRetained 12 = .ok (.iaload, 1) := by decide +kernel
theorem dX3_leftIfRetained_13 : decode cX3_leftIfRetained 13 = .ok (.aload_n 0, 1) := by decide +kernel
theorem dX3_leftIfRetained_14 : decode cX3_leftIfRetained 14 = .ok (.getfield 43, 3) := by decide +kernel
theorem dX3_leftIfRetained_17 : decode cX3_leftIfRetained 17 = .ok (.invokevirtual 46, 3) := by decide +kernel
theorem dX3_leftIfRetained_20 : decode cX3_leftIfRetained 20 = .ok (.ireturn, 1) := by decide +kernel
theorem dX3_segmentsGoing_0 : decode cX3_segmentsGoing 0 = .ok (.aload_n 0, 1) := by decide +kernel
theorem dX3_segmentsGoing_1 : decode cX3_segmentsGoing 1 = .ok (.iconst 0, 1) := by decide +kernel
theorem dX3_segmentsGoing_2 : decode cX3_segmentsGoing 2 = .ok (.aload_n 0, 1) := by decide +kernel
theorem dX3_segmentsGoing_3 : decode cX3_segmentsGoing 3 = .ok (.getfield 43, 3) := by decide +kernel
theorem dX3_segmentsGoing_6 : decode cX3_segmentsGoing 6 = .ok (.invokevirtual 50, 3) := by decide +kernel
theorem dX3_segmentsGoing_9 : decode cX3_segmentsGoing 9 = .ok (.istore 4, 2) := by decide +kernel
theorem dX3_segmentsGoing_11 : decode cX3_segmentsGoing 11 = .ok (.iconst 0, 1) := by decide +kernel
theorem dX3_segmentsGoing_12 : decode cX3_segmentsGoing 12 = .ok (.istore 5, 2) := by decide +kernel
theorem dX3_segmentsGoing_14 : decode cX3_segmentsGoing 14 = .ok (.iload 5, 2) := by decide +kernel
theorem dX3_segmentsGoing_16 : decode cX3_segmentsGoing 16 = .ok (.aload_n 0, 1) := by decide +kernel
theorem dX3_segmentsGoing_17 : decode cX3_segmentsGoing 17 = .ok (.getfield 33, 3) := by decide +kernel
theorem dX3_segmentsGoing_20 : decode cX3_segmentsGoing 20 = .ok (.iconst 1, 1) := by decide +kernel
theorem dX3_segmentsGoing_21 : decode cX3_segmentsGoing 21 = .ok (.isub, 1) := by decide +kernel
theorem dX3_segmentsGoing_22 : decode cX3_segmentsGoing 22 = .ok (.if_icmp .ge 52, 3) := by decide +kernel
theorem dX3_segmentsGoing_25 : decode cX3_segmentsGoing 25 = .ok (.iload 4, 2) := by decide +kernel
theorem dX3_segmentsGoing_27 : decode cX3_segmentsGoing 27 = .ok (.iload_n 1, 1) := by decide +kernel
theorem dX3_segmentsGoing_28 : decode cX3_segmentsGoing 28 = .ok (.if_icmp .gt 15, 3) := by decide +kernel
theorem dX3_segmentsGoing_31 : decode cX3_segmentsGoing 31 = .ok (.aload_n 0, 1) := by decide +kernel
theorem dX3_segmentsGoing_32 : decode cX3_segmentsGoing 32 = .ok (.iload 5, 2) := by decide +kernel
theorem dX3_segmentsGoing_34 : decode cX3_segmentsGoing 34 = .ok (.iload_n 2, 1) := by decide +kernel
theorem dX3_segmentsGoing_35 : decode cX3_segmentsGoing 35 = .ok (.iload_n 3, 1) := by decide +kernel
theorem dX3_segmentsGoing_36 : decode cX3_segmentsGoing 36 = .ok (.isub, 1) := by decide +kernel
theorem dX3_segmentsGoing_37 : decode cX3_segmentsGoing 37 = .ok (.invokevirtual 91, 3) := by decide +kernel
theorem dX3_segmentsGoing_40 : decode cX3_segmentsGoing 40 = .ok (.ifCond .eq 34, 3) := by decide +kernel
theorem dX3_segmentsGoing_43 : decode cX3_segmentsGoing 43 = .ok (.iload 4, 2) := by decide +kernel
theorem dX3_segmentsGoing_45 : decode cX3_segmentsGoing 45 = .ok (.aload_n 0, 1) := by decide +kernel
theorem dX3_segmentsGoing_46 : decode cX3_segmentsGoing 46 = .ok (.aload_n 0, 1) := by decide +kernel
theorem dX3_segmentsGoing_47 : decode cX3_segmentsGoing 47 = .ok (.getfield 27, 3) := by decide +kernel
theorem dX3_segmentsGoing_50 : decode cX3_segmentsGoing 50 = .ok (.iload 5, 2) := by decide +kernel
theorem dX3_segmentsGoing_52 : decode cX3_segmentsGoing 52 = .ok (.iaload, 1) := by decide +kernel
theorem dX3_segmentsGoing_53 : decode cX3_segmentsGoing 53 = .ok (.aload_n 0, 1) := by decide +kernel
theorem dX3_segmentsGoing_54 : decode cX3_segmentsGoing 54 = .ok (.getfield 27, 3) := by decide +kernel
theorem dX3_segmentsGoing_57 : decode cX3_segmentsGoing 57 = .ok (.iload 5, 2) := by decide +kernel
theorem dX3_segmentsGoing_59 : decode cX3_segmentsGoing 59 = .ok (.iconst 1, 1) := by decide +kernel
theorem dX3_segmentsGoing_60 : decode cX3_segmentsGoing 60 = .ok (.iadd, 1) := by decide +kernel
theorem dX3_segmentsGoing_61 : decode cX3_segmentsGoing 61 = .ok (.iaload, 1) := by decide +kernel
theorem dX3_segmentsGoing_62 : decode cX3_segmentsGoing 62 = .ok (.invokevirtual 50, 3) := by decide +kernel
theorem dX3_segmentsGoing_65 : decode cX3_segmentsGoing 65 = .ok (.isub, 1) := by decide +kernel
theorem dX3_segmentsGoing_66 : decode cX3_segmentsGoing 66 = .ok (.istore 4, 2) := by decide +kernel
theorem dX3_segmentsGoing_68 : decode cX3_segmentsGoing 68 = .ok (.iinc 5 1, 3) := by decide +kernel
theorem dX3_segmentsGoing_71 : decode cX3_segmentsGoing 71 = .ok (.goto (-57), 3) := by decide +kernel
theorem dX3_segmentsGoing_74 : decode cX3_segmentsGoing 74 = .ok (.iload 5, 2) := by decide +kernel
theorem dX3_segmentsGoing_76 : decode cX3_segmentsGoing 76 = .ok (.ireturn, 1) := by decide +kernel
theorem dX3_isOutdated_0 : decode cX3_isOutdated 0 = .ok (.aload_n 0, 1) := by decide +kernel
theorem dX3_isOutdated_1 : decode cX3_isOutdated 1 = .ok (.getfield 27, 3) := by decide +kernel
theorem dX3_isOutdated_4 : decode cX3_isOutdated 4 = .ok (.iload_n 1, 1) := by decide +kernel
theorem dX3_isOutdated_5 : decode cX3_isOutdated 5 = .ok (.iaload, 1) := by decide +kernel
theorem dX3_isOutdated_6 : decode cX3_isOutdated 6 = .ok (.istore_n 3, 1) := by decide +kernel
theorem dX3_isOutdated_7 : decode cX3_isOutdated 7 = .ok (.iload_n 3, 1) := by decide +kernel
theorem dX3_isOutdated_8 : decode cX3_isOutdated 8 = .ok (.aload_n 0, 1) := by decide +kernel
theorem dX3_isOutdated_9 : decode cX3_isOutdated 9 = .ok (.iload_n 1, 1) := by decide +kernel
theorem dX3_isOutdated_10 : decode cX3_isOutdated 10 = .ok (.invokevirtual 83, 3) := by decide +kernel
theorem dX3_isOutdated_13 : decode cX3_isOutdated 13 = .ok (.if_icmp .ge 30, 3) := by decide +kernel
theorem dX3_isOutdated_16 : decode cX3_isOutdated 16 = .ok (.aload_n 0, 1) := by decide +kernel
theorem dX3_isOutdated_17 : decode cX3_isOutdated 17 = .ok (.getfield 9, 3) := by decide +kernel
theorem dX3_isOutdated_20 : decode cX3_isOutdated 20 = .ok (.iload_n 3, 1) := by decide +kernel
theorem dX3_isOutdated_21 : decode cX3_isOutdated 21 = .ok (.iaload, 1) := by decide +kernel
theorem dX3_isOutdated_22 : decode cX3_isOutdated 22 = .ok (.ifCond .eq 15, 3) := by decide +kernel
theorem dX3_isOutdated_25 : decode cX3_isOutdated 25 = .ok (.aload_n 0, 1) := by decide +kernel
theorem dX3_isOutdated_26 : decode cX3_isOutdated 26 = .ok (.getfield 18, 3) := by decide +kernel
theorem dX3_isOutdated_29 : decode cX3_isOutdated 29 = .ok (.iload_n 3, 1) := by decide +kernel
theorem dX3_isOutdated_30 : decode cX3_isOutdated 30 = .ok (.iaload, 1) := by decide +kernel
theorem dX3_isOutdated_31 : decode cX3_isOutdated 31 = .ok (.iload_n 2, 1) := by decide +kernel
theorem dX3_isOutdated_32 : decode cX3_isOutdated 32 = .ok (.if_icmp .lt 5, 3) := by decide +kernel
theorem dX3_isOutdated_35 : decode cX3_isOutdated 35 = .ok (.iconst 0, 1) := by decide +kernel
theorem dX3_isOutdated_36 : decode cX3_isOutdated 36 = .ok (.ireturn, 1) := by decide +kernel
theorem dX3_isOutdated_37 : decode cX3_isOutdated 37 = .ok (.iinc 3 1, 3) := by decide +kernel
theorem dX3_isOutdated_40 : decode cX3_isOutdated 40 = .ok (.goto (-33), 3) := by decide +kernel
theorem dX3_isOutdated_43 : decode cX3_isOutdated 43 = .ok (.iconst 1, 1) := by decide +kernel
theorem dX3_isOutdated_44 : decode cX3_isOutdated 44 = .ok (.ireturn, 1) := by decide +kernel
theorem dX3_findLast_0 : decode cX3_findLast 0 = .ok (.iconst 0, 1) := by decide +kernel
theorem dX3_findLast_1 : decode cX3_findLast 1 = .ok (.istore_n 2, 1) := by decide +kernel
theorem dX3_findLast_2 : decode cX3_findLast 2 = .ok (.iload_n 2, 1) := by decide +kernel
theorem dX3_findLast_3 : decode cX3_findLast 3 = .ok (.bipush 26, 2) := by decide +kernel
theorem dX3_findLast_5 : decode cX3_findLast 5 = .ok (.if_icmp .ge 17, 3) := by decide +kernel
theorem dX3_findLast_8 : decode cX3_findLast 8 = .ok (.aload_n 0, 1) := by decide +kernel
theorem dX3_findLast_9 : decode cX3_findLast 9 = .ok (.getfield 30, 3) := by decide +kernel
theorem dX3_findLast_12 : decode cX3_findLast 12 = .ok (.iload_n 2, 1) := by decide +kernel
theorem dX3_findLast_13 : decode cX3_findLast 13 = .ok (.bipush (-5), 2) := by decide +kernel
theorem dX3_findLast_15 : decode cX3_findLast 15 = .ok (.iastore, 1) := by decide +kernel
theorem dX3_findLast_16 : decode cX3_findLast 16 = .ok (.iinc 2 1, 3) := by decide +kernel
theorem dX3_findLast_19 : decode cX3_findLast 19 = .ok (.goto (-17), 3) := by decide +kernel
theorem dX3_findLast_22 : decode cX3_findLast 22 = .ok (.iconst 0, 1) := by decide +kernel
theorem dX3_findLast_23 : decode cX3_findLast 23 = .ok (.istore_n 2, 1) := by decide +kernel
theorem dX3_findLast_24 : decode cX3_findLast 24 = .ok (.iload_n 2, 1) := by decide +kernel
theorem dX3_findLast_25 : decode cX3_findLast 25 = .ok (.iload_n 1, 1) := by decide +kernel
theorem dX3_findLast_26 : decode cX3_findLast 26 = .ok (.if_icmp .ge 38, 3) := by decide +kernel
theorem dX3_findLast_29 : decode cX3_findLast 29 = .ok (.iload_n 2, 1) := by decide +kernel
theorem dX3_findLast_30 : decode cX3_findLast 30 = .ok (.aload_n 0, 1) := by decide +kernel
theorem dX3_findLast_31 : decode cX3_findLast 31 = .ok (.getfield 43, 3) := by decide +kernel
theorem dX3_findLast_34 : decode cX3_findLast 34 = .ok (.if_icmp .ge 30, 3) := by decide +kernel
theorem dX3_findLast_37 : decode cX3_findLast 37 = .ok (.aload_n 0, 1) := by decide +kernel
theorem dX3_findLast_38 : decode cX3_findLast 38 = .ok (.getfield 9, 3) := by decide +kernel
theorem dX3_findLast_41 : decode cX3_findLast 41 = .ok (.iload_n 2, 1) := by decide +kernel
theorem dX3_findLast_42 : decode cX3_findLast 42 = .ok (.iaload, 1) := by decide +kernel
theorem dX3_findLast_43 : decode cX3_findLast 43 = .ok (.ifCond .eq 15, 3) := by decide +kernel
theorem dX3_findLast_46 : decode cX3_findLast 46 = .ok (.aload_n 0, 1) := by decide +kernel
theorem dX3_findLast_47 : decode cX3_findLast 47 = .ok (.getfield 30, 3) := by decide +kernel
theorem dX3_findLast_50 : decode cX3_findLast 50 = .ok (.aload_n 0, 1) := by decide +kernel
theorem dX3_findLast_51 : decode cX3_findLast 51 = .ok (.getfield 15, 3) := by decide +kernel
theorem dX3_findLast_54 : decode cX3_findLast 54 = .ok (.iload_n 2, 1) := by decide +kernel
theorem dX3_findLast_55 : decode cX3_findLast 55 = .ok (.iaload, 1) := by decide +kernel
theorem dX3_findLast_56 : decode cX3_findLast 56 = .ok (.iload_n 2, 1) := by decide +kernel
theorem dX3_findLast_57 : decode cX3_findLast 57 = .ok (.iastore, 1) := by decide +kernel
theorem dX3_findLast_58 : decode cX3_findLast 58 = .ok (.iinc 2 1, 3) := by decide +kernel
theorem dX3_findLast_61 : decode cX3_findLast 61 = .ok (.goto (-37), 3) := by decide +kernel
theorem dX3_findLast_64 : decode cX3_findLast 64 = .ok (.return_, 1) := by decide +kernel
theorem dX3_isMapped_0 : decode cX3_isMapped 0 = .ok (.aload_n 0, 1) := by decide +kernel
theorem dX3_isMapped_1 : decode cX3_isMapped 1 = .ok (.getfield 30, 3) := by decide +kernel
theorem dX3_isMapped_4 : decode cX3_isMapped 4 = .ok (.iload_n 1, 1) := by decide +kernel
theorem dX3_isMapped_5 : decode cX3_isMapped 5 = .ok (.iaload, 1) := by decide +kernel
theorem dX3_isMapped_6 : decode cX3_isMapped 6 = .ok (.ifCond .lt 22, 3) := by decide +kernel
theorem dX3_isMapped_9 : decode cX3_isMapped 9 = .ok (.aload_n 0, 1) := by decide +kernel
theorem dX3_isMapped_10 : decode cX3_isMapped 10 = .ok (.getfield 9, 3) := by decide +kernel
theorem dX3_isMapped_13 : decode cX3_isMapped 13 = .ok (.aload_n 0, 1) := by decide +kernel
theorem dX3_isMapped_14 : decode cX3_isMapped 14 = .ok (.getfield 30, 3) := by decide +kernel
theorem dX3_isMapped_17 : decode cX3_isMapped 17 = .ok (.iload_n 1, 1) := by decide +kernel
theorem dX3_isMapped_18 : decode cX3_isMapped 18 = .ok (.iaload, 1) := by decide +kernel
theorem dX3_isMapped_19 : decode cX3_isMapped 19 = .ok (.iaload, 1) := by decide +kernel
theorem dX3_isMapped_20 : decode cX3_isMapped 20 = .ok (.iconst 1, 1) := by decide +kernel
theorem dX3_isMapped_21 : decode cX3_isMapped 21 = .ok (.if_icmp .ne 7, 3) := by decide +kernel
theorem dX3_isMapped_24 : decode cX3_isMapped 24 = .ok (.iconst 1, 1) := by decide +kernel
theorem dX3_isMapped_25 : decode cX3_isMapped 25 = .ok (.goto 4, 3) := by decide +kernel
theorem dX3_isMapped_28 : decode cX3_isMapped 28 = .ok (.iconst 0, 1) := by decide +kernel
theorem dX3_isMapped_29 : decode cX3_isMapped 29 = .ok (.ireturn, 1) := by decide +kernel
theorem dX3_mapSize_0 : decode cX3_mapSize 0 = .ok (.aload_n 0, 1) := by decide +kernel
theorem dX3_mapSize_1 : decode cX3_mapSize 1 = .ok (.iload_n 1, 1) := by decide +kernel
theorem dX3_mapSize_2 : decode cX3_mapSize 2 = .ok (.invokevirtual 65, 3) := by decide +kernel
theorem dX3_mapSize_5 : decode cX3_mapSize 5 = .ok (.iconst 0, 1) := by decide +kernel
theorem dX3_mapSize_6 : decode cX3_mapSize 6 = .ok (.istore_n 2, 1) := by decide +kernel
theorem dX3_mapSize_7 : decode cX3_mapSize 7 = .ok (.iconst 0, 1) := by decide +kernel
theorem dX3_mapSize_8 : decode cX3_mapSize 8 = .ok (.istore_n 3, 1) := by decide +kernel
theorem dX3_mapSize_9 : decode cX3_mapSize 9 = .ok (.iload_n 3, 1) := by decide +kernel
theorem dX3_mapSize_10 : decode cX3_mapSize 10 = .ok (.bipush 26, 2) := by decide +kernel
theorem dX3_mapSize_12 : decode cX3_mapSize 12 = .ok (.if_icmp .ge 20, 3) := by decide +kernel
theorem dX3_mapSize_15 : decode cX3_mapSize 15 = .ok (.aload_n 0, 1) := by decide +kernel
theorem dX3_mapSize_16 : decode cX3_mapSize 16 = .ok (.iload_n 3, 1) := by decide +kernel
theorem dX3_mapSize_17 : decode cX3_mapSize 17 = .ok (.invokevirtual 95, 3) := by decide +kernel
theorem dX3_mapSize_20 : decode cX3_mapSize 20 = .ok (.ifCond .eq 6, 3) := by decide +kernel
theorem dX3_mapSize_23 : decode cX3_mapSize 23 = .ok (.iinc 2 1, 3) := by decide +kernel
theorem dX3_mapSize_26 : decode cX3_mapSize 26 = .ok (.iinc 3 1, 3) := by decide +kernel
theorem dX3_mapSize_29 : decode cX3_mapSize 29 = .ok (.goto (-20), 3) := by decide +kernel
theorem dX3_mapSize_32 : decode cX3_mapSize 32 = .ok (.iload_n 2, 1) := by decide +kernel
theorem dX3_mapSize_33 : decode cX3_mapSize 33 = .ok (.ireturn, 1) := by decide +kernel
theorem dX3_mapValue_0 : decode cX3_mapValue 0 = .ok (.aload_n 0, 1) := by decide +kernel
theorem dX3_mapValue_1 : decode cX3_mapValue 1 = .ok (.iload_n 2, 1) := by decide +kernel
theorem dX3_mapValue_2 : decode cX3_mapValue 2 = .ok (.invokevirtual 65, 3) := by decide +kernel
theorem dX3_mapValue_5 : decode cX3_mapValue 5 = .ok (.aload_n 0, 1) := by decide +kernel
theorem dX3_mapValue_6 : decode cX3_mapValue 6 = .ok (.iload_n 1, 1) := by decide +kernel
theorem dX3_mapValue_7 : decode cX3_mapValue 7 = .ok (.invokevirtual 95, 3) := by decide +kernel
theorem dX3_mapValue_10 : decode cX3_mapValue 10 = .ok (.ifCond .eq 18, 3) := by decide +kernel
theorem dX3_mapValue_13 : decode cX3_mapValue 13 = .ok (.aload_n 0, 1) := by decide +kernel
theorem dX3_mapValue_14 : decode cX3_mapValue 14 = .ok (.getfield 24, 3) := by decide +kernel
theorem dX3_mapValue_17 : decode cX3_mapValue 17 = .ok (.aload_n 0, 1) := by decide +kernel
theorem dX3_mapValue_18 : decode cX3_mapValue 18 = .ok (.getfield 30, 3) := by decide +kernel
theorem dX3_mapValue_21 : decode cX3_mapValue 21 = .ok (.iload_n 1, 1) := by decide +kernel
theorem dX3_mapValue_22 : decode cX3_mapValue 22 = .ok (.iaload, 1) := by decide +kernel
theorem dX3_mapValue_23 : decode cX3_mapValue 23 = .ok (.iaload, 1) := by decide +kernel
theorem dX3_mapValue_24 : decode cX3_mapValue 24 = .ok (.i2l, 1) := by decide +kernel
theorem dX3_mapValue_25 : decode cX3_mapValue 25 = .ok (.goto 6, 3) := by decide +kernel
theorem dX3_mapValue_28 : decode cX3_mapValue 28 = .ok (.ldc2_w 98, 3) := by decide +kernel
theorem dX3_mapValue_31 : decode cX3_mapValue 31 = .ok (.lreturn, 1) := by decide +kernel
theorem dX3_oddSum_0 : decode cX3_oddSum 0 = .ok (.iconst 0, 1) := by decide +kernel
theorem dX3_oddSum_1 : decode cX3_oddSum 1 = .ok (.istore_n 1, 1) := by decide +kernel
theorem dX3_oddSum_2 : decode cX3_oddSum 2 = .ok (.iconst 0, 1) := by decide +kernel
theorem dX3_oddSum_3 : decode cX3_oddSum 3 = .ok (.istore_n 2, 1) := by decide +kernel
theorem dX3_oddSum_4 : decode cX3_oddSum 4 = .ok (.iload_n 2, 1) := by decide +kernel
theorem dX3_oddSum_5 : decode cX3_oddSum 5 = .ok (.bipush 26, 2) := by decide +kernel
theorem dX3_oddSum_7 : decode cX3_oddSum 7 = .ok (.if_icmp .ge 60, 3) := by decide +kernel
theorem dX3_oddSum_10 : decode cX3_oddSum 10 = .ok (.aload_n 0, 1) := by decide +kernel
theorem dX3_oddSum_11 : decode cX3_oddSum 11 = .ok (.iload_n 2, 1) := by decide +kernel
theorem dX3_oddSum_12 : decode cX3_oddSum 12 = .ok (.invokevirtual 95, 3) := by decide +kernel
theorem dX3_oddSum_15 : decode cX3_oddSum 15 = .ok (.ifCond .eq 46, 3) := by decide +kernel
theorem dX3_oddSum_18 : decode cX3_oddSum 18 = .ok (.aload_n 0, 1) := by decide +kernel
theorem dX3_oddSum_19 : decode cX3_oddSum 19 = .ok (.getfield 24, 3) := by decide +kernel
theorem dX3_oddSum_22 : decode cX3_oddSum 22 = .ok (.aload_n 0, 1) := by decide +kernel
theorem dX3_oddSum_23 : decode cX3_oddSum 23 = .ok (.getfield 30, 3) := by decide +kernel
theorem dX3_oddSum_26 : decode cX3_oddSum 26 = .ok (.iload_n 2, 1) := by decide +kernel
theorem dX3_oddSum_27 : decode cX3_oddSum 27 = .ok (.iaload, 1) := by decide +kernel
theorem dX3_oddSum_28 : decode cX3_oddSum 28 = .ok (.iaload, 1) := by decide +kernel
theorem dX3_oddSum_29 : decode cX3_oddSum 29 = .ok (.invokestatic 100, 3) := by decide +kernel
theorem dX3_oddSum_32 : decode cX3_oddSum 32 = .ok (.ifCond .ne 29, 3) := by decide +kernel
theorem dX3_oddSum_35 : decode cX3_oddSum 35 = .ok (.aload_n 0, 1) := by decide +kernel
theorem dX3_oddSum_36 : decode cX3_oddSum 36 = .ok (.getfield 24, 3) := by decide +kernel
theorem dX3_oddSum_39 : decode cX3_oddSum 39 = .ok (.aload_n 0, 1) := by decide +kernel
theorem dX3_oddSum_40 : decode cX3_oddSum 40 = .ok (.getfield 30, 3) := by decide +kernel
theorem dX3_oddSum_43 : decode cX3_oddSum 43 = .ok (.iload_n 2, 1) := by decide +kernel
theorem dX3_oddSum_44 : decode cX3_oddSum 44 = .ok (.iaload, 1) := by decide +kernel
theorem dX3_oddSum_45 : decode cX3_oddSum 45 = .ok (.iaload, 1) := by decide +kernel
theorem dX3_oddSum_46 : decode cX3_oddSum 46 = .ok (.istore_n 3, 1) := by decide +kernel
theorem dX3_oddSum_47 : decode cX3_oddSum 47 = .ok (.iload_n 1, 1) := by decide +kernel
theorem dX3_oddSum_48 : decode cX3_oddSum 48 = .ok (.ifCond .ne 7, 3) := by decide +kernel
theorem dX3_oddSum_51 : decode cX3_oddSum 51 = .ok (.iload_n 3, 1) := by decide +kernel
theorem dX3_oddSum_52 : decode cX3_oddSum 52 = .ok (.goto 8, 3) := by decide +kernel
theorem dX3_oddSum_55 : decode cX3_oddSum 55 = .ok (.iload_n 1, 1) := by decide +kernel
theorem dX3_oddSum_56 : decode cX3_oddSum 56 = .ok (.iload_n 3, 1) := by decide +kernel
theorem dX3_oddSum_57 : decode cX3_oddSum 57 = .ok (.invokestatic 105, 3) := by decide +kernel
theorem dX3_oddSum_60 : decode cX3_oddSum 60 = .ok (.istore_n 1, 1) := by decide +kernel
theorem dX3_oddSum_61 : decode cX3_oddSum 61 = .ok (.iinc 2 1, 3) := by decide +kernel
theorem dX3_oddSum_64 : decode cX3_oddSum 64 = .ok (.goto (-60), 3) := by decide +kernel
theorem dX3_oddSum_67 : decode cX3_oddSum 67 = .ok (.iload_n 1, 1) := by decide +kernel
theorem dX3_oddSum_68 : decode cX3_oddSum 68 = .ok (.ireturn, 1) := by decide +kernel
theorem dX3_summand_0 : decode cX3_summand 0 = .ok (.aload_n 0, 1) := by decide +kernel
theorem dX3_summand_1 : decode cX3_summand 1 = .ok (.iload_n 1, 1) := by decide +kernel
theorem dX3_summand_2 : decode cX3_summand 2 = .ok (.invokevirtual 95, 3) := by decide +kernel
theorem dX3_summand_5 : decode cX3_summand 5 = .ok (.ifCond .eq 24, 3) := by decide +kernel
theorem dX3_summand_8 : decode cX3_summand 8 = .ok (.aload_n 0, 1) := by decide +kernel
theorem dX3_summand_9 : decode cX3_summand 9 = .ok (.getfield 24, 3) := by decide +kernel
theorem dX3_summand_12 : decode cX3_summand 12 = .ok (.aload_n 0, 1) := by decide +kernel
theorem dX3_summand_13 : decode cX3_summand 13 = .ok (.getfield 30, 3) := by decide +kernel
theorem dX3_summand_16 : decode cX3_summand 16 = .ok (.iload_n 1, 1) := by decide +kernel
theorem dX3_summand_17 : decode cX3_summand 17 = .ok (.iaload, 1) := by decide +kernel
theorem dX3_summand_18 : decode cX3_summand 18 = .ok (.iaload, 1) := by decide +kernel
theorem dX3_summand_19 : decode cX3_summand 19 = .ok (.invokestatic 100, 3) := by decide +kernel
theorem dX3_summand_22 : decode cX3_summand 22 = .ok (.ifCond .eq 7, 3) := by decide +kernel
theorem dX3_summand_25 : decode cX3_summand 25 = .ok (.iconst 1, 1) := by decide +kernel
theorem dX3_summand_26 : decode cX3_summand 26 = .ok (.goto 4, 3) := by decide +kernel
theorem dX3_summand_29 : decode cX3_summand 29 = .ok (.iconst 0, 1) := by decide +kernel
theorem dX3_summand_30 : decode cX3_summand 30 = .ok (.istore_n 2, 1) := by decide +kernel
theorem dX3_summand_31 : decode cX3_summand 31 = .ok (.iload_n 2, 1) := by decide +kernel
theorem dX3_summand_32 : decode cX3_summand 32 = .ok (.ifCond .eq 20, 3) := by decide +kernel
theorem dX3_summand_35 : decode cX3_summand 35 = .ok (.aload_n 0, 1) := by decide +kernel
theorem dX3_summand_36 : decode cX3_summand 36 = .ok (.getfield 24, 3) := by decide +kernel
theorem dX3_summand_39 : decode cX3_summand 39 = .ok (.aload_n 0, 1) := by decide +kernel
theorem dX3_summand_40 : decode cX3_summand 40 = .ok (.getfield 30, 3) := by decide +kernel
theorem dX3_summand_43 : decode cX3_summand 43 = .ok (.iload_n 1, 1) := by decide +kernel
theorem dX3_summand_44 : decode cX3_summand 44 = .ok (.iaload, 1) := by decide +kernel
theorem dX3_summand_45 : decode cX3_summand 45 = .ok (.iaload, 1) := by decide +kernel
theorem dX3_summand_46 : decode cX3_summand 46 = .ok (.invokestatic 108, 3) := by decide +kernel
theorem dX3_summand_49 : decode cX3_summand 49 = .ok (.goto 4, 3) := by decide +kernel
theorem dX3_summand_52 : decode cX3_summand 52 = .ok (.fconst 0, 1) := by decide +kernel
theorem dX3_summand_53 : decode cX3_summand 53 = .ok (.freturn, 1) := by decide +kernel
theorem dX3_mapSum_0 : decode cX3_mapSum 0 = .ok (.aload_n 0, 1) := by decide +kernel
theorem dX3_mapSum_1 : decode cX3_mapSum 1 = .ok (.aload_n 0, 1) := by decide +kernel
theorem dX3_mapSum_2 : decode cX3_mapSum 2 = .ok (.getfield 43, 3) := by decide +kernel
theorem dX3_mapSum_5 : decode cX3_mapSum 5 = .ok (.invokevirtual 65, 3) := by decide +kernel
theorem dX3_mapSum_8 : decode cX3_mapSum 8 = .ok (.fconst 0, 1) := by decide +kernel
theorem dX3_mapSum_9 : decode cX3_mapSum 9 = .ok (.fstore_n 1, 1) := by decide +kernel
theorem dX3_mapSum_10 : decode cX3_mapSum 10 = .ok (.iconst 0, 1) := by decide +kernel
theorem dX3_mapSum_11 : decode cX3_mapSum 11 = .ok (.istore_n 2, 1) := by decide +kernel
theorem dX3_mapSum_12 : decode cX3_mapSum 12 = .ok (.iload_n 2, 1) := by decide +kernel
theorem dX3_mapSum_13 : decode cX3_mapSum 13 = .ok (.bipush 26, 2) := by decide +kernel
theorem dX3_mapSum_15 : decode cX3_mapSum 15 = .ok (.if_icmp .ge 17, 3) := by decide +kernel
theorem dX3_mapSum_18 : decode cX3_mapSum 18 = .ok (.fload_n 1, 1) := by decide +kernel
theorem dX3_mapSum_19 : decode cX3_mapSum 19 = .ok (.aload_n 0, 1) := by decide +kernel
theorem dX3_mapSum_20 : decode cX3_mapSum 20 = .ok (.iload_n 2, 1) := by decide +kernel
theorem dX3_mapSum_21 : decode cX3_mapSum 21 = .ok (.invokevirtual 112, 3) := by decide +kernel
theorem dX3_mapSum_24 : decode cX3_mapSum 24 = .ok (.fadd, 1) := by decide +kernel
theorem dX3_mapSum_25 : decode cX3_mapSum 25 = .ok (.fstore_n 1, 1) := by decide +kernel
theorem dX3_mapSum_26 : decode cX3_mapSum 26 = .ok (.iinc 2 1, 3) := by decide +kernel
theorem dX3_mapSum_29 : decode cX3_mapSum 29 = .ok (.goto (-17), 3) := by decide +kernel
theorem dX3_mapSum_32 : decode cX3_mapSum 32 = .ok (.aload_n 0, 1) := by decide +kernel
theorem dX3_mapSum_33 : decode cX3_mapSum 33 = .ok (.invokevirtual 115, 3) := by decide +kernel
theorem dX3_mapSum_36 : decode cX3_mapSum 36 = .ok (.istore_n 2, 1) := by decide +kernel
theorem dX3_mapSum_37 : decode cX3_mapSum 37 = .ok (.iload_n 2, 1) := by decide +kernel
theorem dX3_mapSum_38 : decode cX3_mapSum 38 = .ok (.ifCond .eq 7, 3) := by decide +kernel
theorem dX3_mapSum_41 : decode cX3_mapSum 41 = .ok (.iload_n 2, 1) := by decide +kernel
theorem dX3_mapSum_42 : decode cX3_mapSum 42 = .ok (.goto 7, 3) := by decide +kernel
theorem dX3_mapSum_45 : decode cX3_mapSum 45 = .ok (.fload_n 1, 1) := by decide +kernel
theorem dX3_mapSum_46 : decode cX3_mapSum 46 = .ok (.invokestatic 118, 3) := by decide +kernel
theorem dX3_mapSum_49 : decode cX3_mapSum 49 = .ok (.ireturn, 1) := by decide +kernel
theorem dX3_mapMean_0 : decode cX3_mapMean 0 = .ok (.aload_n 0, 1) := by decide +kernel
theorem dX3_mapMean_1 : decode cX3_mapMean 1 = .ok (.aload_n 0, 1) := by decide +kernel
theorem dX3_mapMean_2 : decode cX3_mapMean 2 = .ok (.getfield 43, 3) := by decide +kernel
theorem dX3_mapMean_5 : decode cX3_mapMean 5 = .ok (.invokevirtual 122, 3) := by decide +kernel
theorem dX3_mapMean_8 : decode cX3_mapMean 8 = .ok (.istore_n 1, 1) := by decide +kernel
theorem dX3_mapMean_9 : decode cX3_mapMean 9 = .ok (.aload_n 0, 1) := by decide +kernel
theorem dX3_mapMean_10 : decode cX3_mapMean 10 = .ok (.invokevirtual 115, 3) := by decide +kernel
theorem dX3_mapMean_13 : decode cX3_mapMean 13 = .ok (.istore_n 2, 1) := by decide +kernel
theorem dX3_mapMean_14 : decode cX3_mapMean 14 = .ok (.iload_n 2, 1) := by decide +kernel
theorem dX3_mapMean_15 : decode cX3_mapMean 15 = .ok (.ifCond .ne 7, 3) := by decide +kernel
theorem dX3_mapMean_18 : decode cX3_mapMean 18 = .ok (.iload_n 1, 1) := by decide +kernel
theorem dX3_mapMean_19 : decode cX3_mapMean 19 = .ok (.ifCond .ne 18, 3) := by decide +kernel
theorem dX3_mapMean_22 : decode cX3_mapMean 22 = .ok (.iload_n 2, 1) := by decide +kernel
theorem dX3_mapMean_23 : decode cX3_mapMean 23 = .ok (.ifCond .eq 10, 3) := by decide +kernel
theorem dX3_mapMean_26 : decode cX3_mapMean 26 = .ok (.iload_n 2, 1) := by decide +kernel
theorem dX3_mapMean_27 : decode cX3_mapMean 27 = .ok (.invokestatic 125, 3) := by decide +kernel
theorem dX3_mapMean_30 : decode cX3_mapMean 30 = .ok (.goto 6, 3) := by decide +kernel
theorem dX3_mapMean_33 : decode cX3_mapMean 33 = .ok (.ldc2_w 98, 3) := by decide +kernel
theorem dX3_mapMean_36 : decode cX3_mapMean 36 = .ok (.lreturn, 1) := by decide +kernel
theorem dX3_mapMean_37 : decode cX3_mapMean 37 = .ok (.dconst 0, 1) := by decide +kernel
theorem dX3_mapMean_38 : decode cX3_mapMean 38 = .ok (.dstore_n 3, 1) := by decide +kernel
theorem dX3_mapMean_39 : decode cX3_mapMean 39 = .ok (.iconst 0, 1) := by decide +kernel
theorem dX3_mapMean_40 : decode cX3_mapMean 40 = .ok (.istore 5, 2) := by decide +kernel
theorem dX3_mapMean_42 : decode cX3_mapMean 42 = .ok (.iload 5, 2) := by decide +kernel
theorem dX3_mapMean_44 : decode cX3_mapMean 44 = .ok (.bipush 26, 2) := by decide +kernel
theorem dX3_mapMean_46 : decode cX3_mapMean 46 = .ok (.if_icmp .ge 19, 3) := by decide +kernel
theorem dX3_mapMean_49 : decode cX3_mapMean 49 = .ok (.dload_n 3, 1) := by decide +kernel
theorem dX3_mapMean_50 : decode cX3_mapMean 50 = .ok (.aload_n 0, 1) := by decide +kernel
theorem dX3_mapMean_51 : decode cX3_mapMean 51 = .ok (.iload 5, 2) := by decide +kernel
theorem dX3_mapMean_53 : decode cX3_mapMean 53 = .ok (.invokevirtual 112, 3) := by decide +kernel
theorem dX3_mapMean_56 : decode cX3_mapMean 56 = .ok (.f2d, 1) := by decide +kernel
theorem dX3_mapMean_57 : decode cX3_mapMean 57 = .ok (.dadd, 1) := by decide +kernel
theorem dX3_mapMean_58 : decode cX3_mapMean 58 = .ok (.dstore_n 3, 1) := by decide +kernel
theorem dX3_mapMean_59 : decode cX3_mapMean 59 = .ok (.iinc 5 1, 3) := by decide +kernel
theorem dX3_mapMean_62 : decode cX3_mapMean 62 = .ok (.goto (-20), 3) := by decide +kernel
theorem dX3_mapMean_65 : decode cX3_mapMean 65 = .ok (.dload_n 3, 1) := by decide +kernel
theorem dX3_mapMean_66 : decode cX3_mapMean 66 = .ok (.iload_n 1, 1) := by decide +kernel
theorem dX3_mapMean_67 : decode cX3_mapMean 67 = .ok (.i2d, 1) := by decide +kernel
theorem dX3_mapMean_68 : decode cX3_mapMean 68 = .ok (.ddiv, 1) := by decide +kernel
theorem dX3_mapMean_69 : decode cX3_mapMean 69 = .ok (.invokestatic 129, 3) := by decide +kernel
theorem dX3_mapMean_72 : decode cX3_mapMean 72 = .ok (.lreturn, 1) := by decide +kernel
theorem dX3_mapLeast_0 : decode cX3_mapLeast 0 = .ok (.aload_n 0, 1) := by decide +kernel
theorem dX3_mapLeast_1 : decode cX3_mapLeast 1 = .ok (.aload_n 0, 1) := by decide +kernel
theorem dX3_mapLeast_2 : decode cX3_mapLeast 2 = .ok (.getfield 43, 3) := by decide +kernel
theorem dX3_mapLeast_5 : decode cX3_mapLeast 5 = .ok (.invokevirtual 65, 3) := by decide +kernel
theorem dX3_mapLeast_8 : decode cX3_mapLeast 8 = .ok (.ldc2_w 98, 3) := by decide +kernel
theorem dX3_mapLeast_11 : decode cX3_mapLeast 11 = .ok (.lstore_n 1, 1) := by decide +kernel
theorem dX3_mapLeast_12 : decode cX3_mapLeast 12 = .ok (.iconst 0, 1) := by decide +kernel
theorem dX3_mapLeast_13 : decode cX3_mapLeast 13 = .ok (.istore_n 3, 1) := by decide +kernel
theorem dX3_mapLeast_14 : decode cX3_mapLeast 14 = .ok (.iload_n 3, 1) := by decide +kernel
theorem dX3_mapLeast_15 : decode cX3_mapLeast 15 = .ok (.bipush 26, 2) := by decide +kernel
theorem dX3_mapLeast_17 : decode cX3_mapLeast 17 = .ok (.if_icmp .ge 51, 3) := by decide +kernel
theorem dX3_mapLeast_20 : decode cX3_mapLeast 20 = .ok (.aload_n 0, 1) := by decide +kernel
theorem dX3_mapLeast_21 : decode cX3_mapLeast 21 = .ok (.iload_n 3, 1) := by decide +kernel
theorem dX3_mapLeast_22 : decode cX3_mapLeast 22 = .ok (.invokevirtual 95, 3) := by decide +kernel
theorem dX3_mapLeast_25 : decode cX3_mapLeast 25 = .ok (.ifCond .eq 37, 3) := by decide +kernel
theorem dX3_mapLeast_28 : decode cX3_mapLeast 28 = .ok (.lload_n 1, 1) := by decide +kernel
theorem dX3_mapLeast_29 : decode cX3_mapLeast 29 = .ok (.ldc2_w 98, 3) := by decide +kernel
theorem dX3_mapLeast_32 : decode cX3_mapLeast 32 = .ok (.lcmp, 1) := by decide +kernel
theorem dX3_mapLeast_33 : decode cX3_mapLeast 33 = .ok (.ifCond .eq 16, 3) := by decide +kernel
theorem dX3_mapLeast_36 : decode cX3_mapLeast 36 = .ok (.aload_n 0, 1) := by decide +kernel
theorem dX3_mapLeast_37 : decode cX3_mapLeast 37 = .ok (.iload_n 3, 1) := by decide +kernel
theorem dX3_mapLeast_38 : decode cX3_mapLeast 38 = .ok (.invokevirtual 133, 3) := by decide +kernel
theorem dX3_mapLeast_41 : decode cX3_mapLeast 41 = .ok (.lload_n 1, 1) := by decide +kernel
theorem dX3_mapLeast_42 : decode cX3_mapLeast 42 = .ok (.l2i, 1) := by decide +kernel
theorem dX3_mapLeast_43 : decode cX3_mapLeast 43 = .ok (.invokestatic 136, 3) := by decide +kernel
theorem dX3_mapLeast_46 : decode cX3_mapLeast 46 = .ok (.if_icmp .ge 16, 3) := by decide +kernel
theorem dX3_mapLeast_49 : decode cX3_mapLeast 49 = .ok (.aload_n 0, 1) := by decide +kernel
theorem dX3_mapLeast_50 : decode cX3_mapLeast 50 = .ok (.getfield 24, 3) := by decide +kernel
theorem dX3_mapLeast_53 : decode cX3_mapLeast 53 = .ok (.aload_n 0, 1) := by decide +kernel
theorem dX3_mapLeast_54 : decode cX3_mapLeast 54 = .ok (.getfield 30, 3) := by decide +kernel
theorem dX3_mapLeast_57 : decode cX3_mapLeast 57 = .ok (.iload_n 3, 1) := by decide +kernel
theorem dX3_mapLeast_58 : decode cX3_mapLeast 58 = .ok (.iaload, 1) := by decide +kernel
theorem dX3_mapLeast_59 : decode cX3_mapLeast 59 = .ok (.iaload, 1) := by decide +kernel
theorem dX3_mapLeast_60 : decode cX3_mapLeast 60 = .ok (.i2l, 1) := by decide +kernel
theorem dX3_mapLeast_61 : decode cX3_mapLeast 61 = .ok (.lstore_n 1, 1) := by decide +kernel
theorem dX3_mapLeast_62 : decode cX3_mapLeast 62 = .ok (.iinc 3 1, 3) := by decide +kernel
theorem dX3_mapLeast_65 : decode cX3_mapLeast 65 = .ok (.goto (-51), 3) := by decide +kernel
theorem dX3_mapLeast_68 : decode cX3_mapLeast 68 = .ok (.lload_n 1, 1) := by decide +kernel
theorem dX3_mapLeast_69 : decode cX3_mapLeast 69 = .ok (.lreturn, 1) := by decide +kernel
theorem dX3_mapGreatest_0 : decode cX3_mapGreatest 0 = .ok (.aload_n 0, 1) := by decide +kernel
theorem dX3_mapGreatest_1 : decode cX3_mapGreatest 1 = .ok (.aload_n 0, 1) := by decide +kernel
theorem dX3_mapGreatest_2 : decode cX3_mapGreatest 2 = .ok (.getfield 43, 3) := by decide +kernel
theorem dX3_mapGreatest_5 : decode cX3_mapGreatest 5 = .ok (.invokevirtual 65, 3) := by decide +kernel
theorem dX3_mapGreatest_8 : decode cX3_mapGreatest 8 = .ok (.ldc2_w 98, 3) := by decide +kernel
theorem dX3_mapGreatest_11 : decode cX3_mapGreatest 11 = .ok (.lstore_n 1, 1) := by decide +kernel
theorem dX3_mapGreatest_12 : decode cX3_mapGreatest 12 = .ok (.iconst 0, 1) := by decide +kernel
theorem dX3_mapGreatest_13 : decode cX3_mapGreatest 13 = .ok (.istore_n 3, 1) := by decide +kernel
theorem dX3_mapGreatest_14 : decode cX3_mapGreatest 14 = .ok (.iload_n 3, 1) := by decide +kernel
theorem dX3_mapGreatest_15 : decode cX3_mapGreatest 15 = .ok (.bipush 26, 2) := by decide +kernel
theorem dX3_mapGreatest_17 : decode cX3_mapGreatest 17 = .ok (.if_icmp .ge 51, 3) := by decide +kernel
theorem dX3_mapGreatest_20 : decode cX3_mapGreatest 20 = .ok (.aload_n 0, 1) := by decide +kernel
theorem dX3_mapGreatest_21 : decode cX3_mapGreatest 21 = .ok (.iload_n 3, 1) := by decide +kernel
theorem dX3_mapGreatest_22 : decode cX3_mapGreatest 22 = .ok (.invokevirtual 95, 3) := by decide +kernel
theorem dX3_mapGreatest_25 : decode cX3_mapGreatest 25 = .ok (.ifCond .eq 37, 3) := by decide +kernel
theorem dX3_mapGreatest_28 : decode cX3_mapGreatest 28 = .ok (.lload_n 1, 1) := by decide +kernel
theorem dX3_mapGreatest_29 : decode cX3_mapGreatest 29 = .ok (.ldc2_w 98, 3) := by decide +kernel
theorem dX3_mapGreatest_32 : decode cX3_mapGreatest 32 = .ok (.lcmp, 1) := by decide +kernel
theorem dX3_mapGreatest_33 : decode cX3_mapGreatest 33 = .ok (.ifCond .eq 16, 3) := by decide +kernel
theorem dX3_mapGreatest_36 : decode cX3_mapGreatest 36 = .ok (.aload_n 0, 1) := by decide +kernel
theorem dX3_mapGreatest_37 : decode cX3_mapGreatest 37 = .ok (.iload_n 3, 1) := by decide +kernel
theorem dX3_mapGreatest_38 : decode cX3_mapGreatest 38 = .ok (.invokevirtual 133, 3) := by decide +kernel
theorem dX3_mapGreatest_41 : decode cX3_mapGreatest 41 = .ok (.lload_n 1, 1) := by decide +kernel
theorem dX3_mapGreatest_42 : decode cX3_mapGreatest 42 = .ok (.l2i, 1) := by decide +kernel
theorem dX3_mapGreatest_43 : decode cX3_mapGreatest 43 = .ok (.invokestatic 136, 3) := by decide +kernel
theorem dX3_mapGreatest_46 : decode cX3_mapGreatest 46 = .ok (.if_icmp .le 16, 3) := by decide +kernel
theorem dX3_mapGreatest_49 : decode cX3_mapGreatest 49 = .ok (.aload_n 0, 1) := by decide +kernel
theorem dX3_mapGreatest_50 : decode cX3_mapGreatest 50 = .ok (.getfield 24, 3) := by decide +kernel
theorem dX3_mapGreatest_53 : decode cX3_mapGreatest 53 = .ok (.aload_n 0, 1) := by decide +kernel
theorem dX3_mapGreatest_54 : decode cX3_mapGreatest 54 = .ok (.getfield 30, 3) := by decide +kernel
theorem dX3_mapGreatest_57 : decode cX3_mapGreatest 57 = .ok (.iload_n 3, 1) := by decide +kernel
theorem dX3_mapGreatest_58 : decode cX3_mapGreatest 58 = .ok (.iaload, 1) := by decide +kernel
theorem dX3_mapGreatest_59 : decode cX3_mapGreatest 59 = .ok (.iaload, 1) := by decide +kernel
theorem dX3_mapGreatest_60 : decode cX3_mapGreatest 60 = .ok (.i2l, 1) := by decide +kernel
theorem dX3_mapGreatest_61 : decode cX3_mapGreatest 61 = .ok (.lstore_n 1, 1) := by decide +kernel
theorem dX3_mapGreatest_62 : decode cX3_mapGreatest 62 = .ok (.iinc 3 1, 3) := by decide +kernel
theorem dX3_mapGreatest_65 : decode cX3_mapGreatest 65 = .ok (.goto (-51), 3) := by decide +kernel
theorem dX3_mapGreatest_68 : decode cX3_mapGreatest 68 = .ok (.lload_n 1, 1) := by decide +kernel
theorem dX3_mapGreatest_69 : decode cX3_mapGreatest 69 = .ok (.lreturn, 1) := by decide +kernel
theorem dX3_rankAt_0 : decode cX3_rankAt 0 = .ok (.aload_n 0, 1) := by decide +kernel
theorem dX3_rankAt_1 : decode cX3_rankAt 1 = .ok (.getfield 24, 3) := by decide +kernel
theorem dX3_rankAt_4 : decode cX3_rankAt 4 = .ok (.aload_n 0, 1) := by decide +kernel
theorem dX3_rankAt_5 : decode cX3_rankAt 5 = .ok (.getfield 30, 3) := by decide +kernel
theorem dX3_rankAt_8 : decode cX3_rankAt 8 = .ok (.iload_n 1, 1) := by decide +kernel
theorem dX3_rankAt_9 : decode cX3_rankAt 9 = .ok (.iaload, 1) := by decide +kernel
theorem dX3_rankAt_10 : decode cX3_rankAt 10 = .ok (.iaload, 1) := by decide +kernel
theorem dX3_rankAt_11 : decode cX3_rankAt 11 = .ok (.invokestatic 136, 3) := by decide +kernel
theorem dX3_rankAt_14 : decode cX3_rankAt 14 = .ok (.ireturn, 1) := by decide +kernel
theorem dX3_byAge_0 : decode cX3_byAge 0 = .ok (.iload_n 1, 1) := by decide +kernel
theorem dX3_byAge_1 : decode cX3_byAge 1 = .ok (.istore_n 2, 1) := by decide +kernel
theorem dX3_byAge_2 : decode cX3_byAge 2 = .ok (.iconst 0, 1) := by decide +kernel
theorem dX3_byAge_3 : decode cX3_byAge 3 = .ok (.istore_n 3, 1) := by decide +kernel
theorem dX3_byAge_4 : decode cX3_byAge 4 = .ok (.iload_n 3, 1) := by decide +kernel
theorem dX3_byAge_5 : decode cX3_byAge 5 = .ok (.aload_n 0, 1) := by decide +kernel
theorem dX3_byAge_6 : decode cX3_byAge 6 = .ok (.getfield 43, 3) := by decide +kernel
theorem dX3_byAge_9 : decode cX3_byAge 9 = .ok (.if_icmp .ge 66, 3) := by decide +kernel
theorem dX3_byAge_12 : decode cX3_byAge 12 = .ok (.iload_n 3, 1) := by decide +kernel
theorem dX3_byAge_13 : decode cX3_byAge 13 = .ok (.ifCond .eq 20, 3) := by decide +kernel
theorem dX3_byAge_16 : decode cX3_byAge 16 = .ok (.aload_n 0, 1) := by decide +kernel
theorem dX3_byAge_17 : decode cX3_byAge 17 = .ok (.getfield 18, 3) := by decide +kernel
theorem dX3_byAge_20 : decode cX3_byAge 20 = .ok (.iload_n 3, 1) := by decide +kernel
theorem dX3_byAge_21 : decode cX3_byAge 21 = .ok (.iaload, 1) := by decide +kernel
theorem dX3_byAge_22 : decode cX3_byAge 22 = .ok (.aload_n 0, 1) := by decide +kernel
theorem dX3_byAge_23 : decode cX3_byAge 23 = .ok (.getfield 18, 3) := by decide +kernel
theorem dX3_byAge_26 : decode cX3_byAge 26 = .ok (.iload_n 3, 1) := by decide +kernel
theorem dX3_byAge_27 : decode cX3_byAge 27 = .ok (.iconst 1, 1) := by decide +kernel
theorem dX3_byAge_28 : decode cX3_byAge 28 = .ok (.isub, 1) := by decide +kernel
theorem dX3_byAge_29 : decode cX3_byAge 29 = .ok (.iaload, 1) := by decide +kernel
theorem dX3_byAge_30 : decode cX3_byAge 30 = .ok (.if_icmp .eq 39, 3) := by decide +kernel
theorem dX3_byAge_33 : decode cX3_byAge 33 = .ok (.aload_n 0, 1) := by decide +kernel
theorem dX3_byAge_34 : decode cX3_byAge 34 = .ok (.iload_n 3, 1) := by decide +kernel
theorem dX3_byAge_35 : decode cX3_byAge 35 = .ok (.invokevirtual 139, 3) := by decide +kernel
theorem dX3_byAge_38 : decode cX3_byAge 38 = .ok (.istore 4, 2) := by decide +kernel
theorem dX3_byAge_40 : decode cX3_byAge 40 = .ok (.aload_n 0, 1) := by decide +kernel
theorem dX3_byAge_41 : decode cX3_byAge 41 = .ok (.iload_n 3, 1) := by decide +kernel
theorem dX3_byAge_42 : decode cX3_byAge 42 = .ok (.iload 4, 2) := by decide +kernel
theorem dX3_byAge_44 : decode cX3_byAge 44 = .ok (.invokevirtual 46, 3) := by decide +kernel
theorem dX3_byAge_47 : decode cX3_byAge 47 = .ok (.istore 5, 2) := by decide +kernel
theorem dX3_byAge_49 : decode cX3_byAge 49 = .ok (.iload_n 2, 1) := by decide +kernel
theorem dX3_byAge_50 : decode cX3_byAge 50 = .ok (.iload 5, 2) := by decide +kernel
theorem dX3_byAge_52 : decode cX3_byAge 52 = .ok (.if_icmp .ge 12, 3) := by decide +kernel
theorem dX3_byAge_55 : decode cX3_byAge 55 = .ok (.aload_n 0, 1) := by decide +kernel
theorem dX3_byAge_56 : decode cX3_byAge 56 = .ok (.iload_n 3, 1) := by decide +kernel
theorem dX3_byAge_57 : decode cX3_byAge 57 = .ok (.iload 4, 2) := by decide +kernel
theorem dX3_byAge_59 : decode cX3_byAge 59 = .ok (.iload_n 2, 1) := by decide +kernel
theorem dX3_byAge_60 : decode cX3_byAge 60 = .ok (.invokevirtual 142, 3) := by decide +kernel
theorem dX3_byAge_63 : decode cX3_byAge 63 = .ok (.ireturn, 1) := by decide +kernel
theorem dX3_byAge_64 : decode cX3_byAge 64 = .ok (.iload_n 2, 1) := by decide +kernel
theorem dX3_byAge_65 : decode cX3_byAge 65 = .ok (.iload 5, 2) := by decide +kernel
theorem dX3_byAge_67 : decode cX3_byAge 67 = .ok (.isub, 1) := by decide +kernel
theorem dX3_byAge_68 : decode cX3_byAge 68 = .ok (.istore_n 2, 1) := by decide +kernel
theorem dX3_byAge_69 : decode cX3_byAge 69 = .ok (.iinc 3 1, 3) := by decide +kernel
theorem dX3_byAge_72 : decode cX3_byAge 72 = .ok (.goto (-68), 3) := by decide +kernel
theorem dX3_byAge_75 : decode cX3_byAge 75 = .ok (.bipush (-5), 2) := by decide +kernel
theorem dX3_byAge_77 : decode cX3_byAge 77 = .ok (.ireturn, 1) := by decide +kernel
theorem dX3_likeTimesEnd_0 : decode cX3_likeTimesEnd 0 = .ok (.iload_n 1, 1) := by decide +kernel
theorem dX3_likeTimesEnd_1 : decode cX3_likeTimesEnd 1 = .ok (.istore_n 2, 1) := by decide +kernel
theorem dX3_likeTimesEnd_2 : decode cX3_likeTimesEnd 2 = .ok (.iload_n 2, 1) := by decide +kernel
theorem dX3_likeTimesEnd_3 : decode cX3_likeTimesEnd 3 = .ok (.aload_n 0, 1) := by decide +kernel
theorem dX3_likeTimesEnd_4 : decode cX3_likeTimesEnd 4 = .ok (.getfield 43, 3) := by decide +kernel
theorem dX3_likeTimesEnd_7 : decode cX3_likeTimesEnd 7 = .ok (.if_icmp .ge 24, 3) := by decide +kernel
theorem dX3_likeTimesEnd_10 : decode cX3_likeTimesEnd 10 = .ok (.aload_n 0, 1) := by decide +kernel
theorem dX3_likeTimesEnd_11 : decode cX3_likeTimesEnd 11 = .ok (.getfield 18, 3) := by decide +kernel
theorem dX3_likeTimesEnd_14 : decode cX3_likeTimesEnd 14 = .ok (.iload_n 2, 1) := by decide +kernel
theorem dX3_likeTimesEnd_15 : decode cX3_likeTimesEnd 15 = .ok (.iaload, 1) := by decide +kernel
theorem dX3_likeTimesEnd_16 : decode cX3_likeTimesEnd 16 = .ok (.aload_n 0, 1) := by decide +kernel
theorem dX3_likeTimesEnd_17 : decode cX3_likeTimesEnd 17 = .ok (.getfield 18, 3) := by decide +kernel
theorem dX3_likeTimesEnd_20 : decode cX3_likeTimesEnd 20 = .ok (.iload_n 1, 1) := by decide +kernel
theorem dX3_likeTimesEnd_21 : decode cX3_likeTimesEnd 21 = .ok (.iaload, 1) := by decide +kernel
theorem dX3_likeTimesEnd_22 : decode cX3_likeTimesEnd 22 = .ok (.if_icmp .ne 9, 3) := by decide +kernel
theorem dX3_likeTimesEnd_25 : decode cX3_likeTimesEnd 25 = .ok (.iinc 2 1, 3) := by decide +kernel
theorem dX3_likeTimesEnd_28 : decode cX3_likeTimesEnd 28 = .ok (.goto (-26), 3) := by decide +kernel
theorem dX3_likeTimesEnd_31 : decode cX3_likeTimesEnd 31 = .ok (.iload_n 2, 1) := by decide +kernel
theorem dX3_likeTimesEnd_32 : decode cX3_likeTimesEnd 32 = .ok (.ireturn, 1) := by decide +kernel
theorem dX3_bySize_0 : decode cX3_bySize 0 = .ok (.iload_n 3, 1) := by decide +kernel
theorem dX3_bySize_1 : decode cX3_bySize 1 = .ok (.istore 4, 2) := by decide +kernel
theorem dX3_bySize_3 : decode cX3_bySize 3 = .ok (.bipush 9, 2) := by decide +kernel
theorem dX3_bySize_5 : decode cX3_bySize 5 = .ok (.istore 5, 2) := by decide +kernel
theorem dX3_bySize_7 : decode cX3_bySize 7 = .ok (.iload 5, 2) := by decide +kernel
theorem dX3_bySize_9 : decode cX3_bySize 9 = .ok (.ifCond .le 57, 3) := by decide +kernel
theorem dX3_bySize_12 : decode cX3_bySize 12 = .ok (.iload_n 1, 1) := by decide +kernel
theorem dX3_bySize_13 : decode cX3_bySize 13 = .ok (.istore 6, 2) := by decide +kernel
theorem dX3_bySize_15 : decode cX3_bySize 15 = .ok (.iload 6, 2) := by decide +kernel
theorem dX3_bySize_17 : decode cX3_bySize 17 = .ok (.iload_n 2, 1) := by decide +kernel
theorem dX3_bySize_18 : decode cX3_bySize 18 = .ok (.if_icmp .ge 42, 3) := by decide +kernel
theorem dX3_bySize_21 : decode cX3_bySize 21 = .ok (.aload_n 0, 1) := by decide +kernel
theorem dX3_bySize_22 : decode cX3_bySize 22 = .ok (.getfield 9, 3) := by decide +kernel
theorem dX3_bySize_25 : decode cX3_bySize 25 = .ok (.iload 6, 2) := by decide +kernel
theorem dX3_bySize_27 : decode cX3_bySize 27 = .ok (.iaload, 1) := by decide +kernel
theorem dX3_bySize_28 : decode cX3_bySize 28 = .ok (.ifCond .eq 26, 3) := by decide +kernel
theorem dX3_bySize_31 : decode cX3_bySize 31 = .ok (.aload_n 0, 1) := by decide +kernel
theorem dX3_bySize_32 : decode cX3_bySize 32 = .ok (.getfield 21, 3) := by decide +kernel
theorem dX3_bySize_35 : decode cX3_bySize 35 = .ok (.iload 6, 2) := by decide +kernel
theorem dX3_bySize_37 : decode cX3_bySize 37 = .ok (.iaload, 1) := by decide +kernel
theorem dX3_bySize_38 : decode cX3_bySize 38 = .ok (.iload 5, 2) := by decide +kernel
theorem dX3_bySize_40 : decode cX3_bySize 40 = .ok (.if_icmp .ne 14, 3) := by decide +kernel
theorem dX3_bySize_43 : decode cX3_bySize 43 = .ok (.iload 4, 2) := by decide +kernel
theorem dX3_bySize_45 : decode cX3_bySize 45 = .ok (.ifCond .ne 6, 3) := by decide +kernel
theorem dX3_bySize_48 : decode cX3_bySize 48 = .ok (.iload 6, 2) := by decide +kernel
theorem dX3_bySize_50 : decode cX3_bySize 50 = .ok (.ireturn, 1) := by decide +kernel
theorem dX3_bySize_51 : decode cX3_bySize 51 = .ok (.iinc 4 (-1), 3) := by decide +kernel
theorem dX3_bySize_54 : decode cX3_bySize 54 = .ok (.iinc 6 1, 3) := by decide +kernel
theorem dX3_bySize_57 : decode cX3_bySize 57 = .ok (.goto (-42), 3) := by decide +kernel
theorem dX3_bySize_60 : decode cX3_bySize 60 = .ok (.iinc 5 (-1), 3) := by decide +kernel
theorem dX3_bySize_63 : decode cX3_bySize 63 = .ok (.goto (-56), 3) := by decide +kernel
theorem dX3_bySize_66 : decode cX3_bySize 66 = .ok (.bipush (-5), 2) := by decide +kernel
theorem dX3_bySize_68 : decode cX3_bySize 68 = .ok (.ireturn, 1) := by decide +kernel
theorem dX4_init_0 : decode cX4_init 0 = .ok (.aload_n 0, 1) := by decide +kernel
theorem dX4_init_1 : decode cX4_init 1 = .ok (.invokespecial 1, 3) := by decide +kernel
theorem dX4_init_4 : decode cX4_init 4 = .ok (.aload_n 0, 1) := by decide +kernel
theorem dX4_init_5 : decode cX4_init 5 = .ok (.iload_n 1, 1) := by decide +kernel
theorem dX4_init_6 : decode cX4_init 6 = .ok (.iconst 0, 1) := by decide +kernel
theorem dX4_init_7 : decode cX4_init 7 = .ok (.invokestatic 7, 3) := by decide +kernel
theorem dX4_init_10 : decode cX4_init 10 = .ok (.newarray .int, 2) := by decide +kernel
theorem dX4_init_12 : decode cX4_init 12 = .ok (.putfield 13, 3) := by decide +kernel
theorem dX4_init_15 : decode cX4_init 15 = .ok (.aload_n 0, 1) := by decide +kernel
theorem dX4_init_16 : decode cX4_init 16 = .ok (.iload_n 1, 1) := by decide +kernel
theorem dX4_init_17 : decode cX4_init 17 = .ok (.iconst 0, 1) := by decide +kernel
theorem dX4_init_18 : decode cX4_init 18 = .ok (.invokestatic 7, 3) := by decide +kernel
theorem dX4_init_21 : decode cX4_init 21 = .ok (.newarray .int, 2) := by decide +kernel
theorem dX4_init_23 : decode cX4_init 23 = .ok (.putfield 19, 3) := by decide +kernel
theorem dX4_init_26 : decode cX4_init 26 = .ok (.return_, 1) := by decide +kernel
theorem dX4_copyFrom_0 : decode cX4_copyFrom 0 = .ok (.aload_n 0, 1) := by decide +kernel
theorem dX4_copyFrom_1 : decode cX4_copyFrom 1 = .ok (.aload_n 1, 1) := by decide +kernel
theorem dX4_copyFrom_2 : decode cX4_copyFrom 2 = .ok (.getfield 22, 3) := by decide +kernel
theorem dX4_copyFrom_5 : decode cX4_copyFrom 5 = .ok (.aload_n 0, 1) := by decide +kernel
theorem dX4_copyFrom_6 : decode cX4_copyFrom 6 = .ok (.getfield 13, 3) := by decide +kernel
theorem dX4_copyFrom_9 : decode cX4_copyFrom 9 = .ok (.arraylength, 1) := by decide +kernel
theorem dX4_copyFrom_10 : decode cX4_copyFrom 10 = .ok (.invokestatic 26, 3) := by decide +kernel
theorem dX4_copyFrom_13 : decode cX4_copyFrom 13 = .ok (.putfield 22, 3) := by decide +kernel
theorem dX4_copyFrom_16 : decode cX4_copyFrom 16 = .ok (.aload_n 1, 1) := by decide +kernel
theorem dX4_copyFrom_17 : decode cX4_copyFrom 17 = .ok (.getfield 13, 3) := by decide +kernel
theorem dX4_copyFrom_20 : decode cX4_copyFrom 20 = .ok (.iconst 0, 1) := by decide +kernel
theorem dX4_copyFrom_21 : decode cX4_copyFrom 21 = .ok (.aload_n 0, 1) := by decide +kernel
theorem dX4_copyFrom_22 : decode cX4_copyFrom 22 = .ok (.getfield 13, 3) := by decide +kernel
theorem dX4_copyFrom_25 : decode cX4_copyFrom 25 = .ok (.iconst 0, 1) := by decide +kernel
theorem dX4_copyFrom_26 : decode cX4_copyFrom 26 = .ok (.aload_n 0, 1) := by decide +kernel
theorem dX4_copyFrom_27 : decode cX4_copyFrom 27 = .ok (.getfield 22, 3) := by decide +kernel
theorem dX4_copyFrom_30 : decode cX4_copyFrom 30 = .ok (.invokestatic 29, 3) := by decide +kernel
theorem dX4_copyFrom_33 : decode cX4_copyFrom 33 = .ok (.aload_n 1, 1) := by decide +kernel
theorem dX4_copyFrom_34 : decode cX4_copyFrom 34 = .ok (.getfield 19, 3) := by decide +kernel
theorem dX4_copyFrom_37 : decode cX4_copyFrom 37 = .ok (.iconst 0, 1) := by decide +kernel
theorem dX4_copyFrom_38 : decode cX4_copyFrom 38 = .ok (.aload_n 0, 1) := by decide +kernel
theorem dX4_copyFrom_39 : decode cX4_copyFrom 39 = .ok (.getfield 19, 3) := by decide +kernel
theorem dX4_copyFrom_42 : decode cX4_copyFrom 42 = .ok (.iconst 0, 1) := by decide +kernel
theorem dX4_copyFrom_43 : decode cX4_copyFrom 43 = .ok (.aload_n 0, 1) := by decide +kernel
theorem dX4_copyFrom_44 : decode cX4_copyFrom 44 = .ok (.getfield 22, 3) := by decide +kernel
theorem dX4_copyFrom_47 : decode cX4_copyFrom 47 = .ok (.invokestatic 29, 3) := by decide +kernel
theorem dX4_copyFrom_50 : decode cX4_copyFrom 50 = .ok (.return_, 1) := by decide +kernel
theorem dX4_isFull_0 : decode cX4_isFull 0 = .ok (.aload_n 0, 1) := by decide +kernel
theorem dX4_isFull_1 : decode cX4_isFull 1 = .ok (.getfield 22, 3) := by decide +kernel
theorem dX4_isFull_4 : decode cX4_isFull 4 = .ok (.aload_n 0, 1) := by decide +kernel
theorem dX4_isFull_5 : decode cX4_isFull 5 = .ok (.getfield 13, 3) := by decide +kernel
theorem dX4_isFull_8 : decode cX4_isFull 8 = .ok (.arraylength, 1) := by decide +kernel
theorem dX4_isFull_9 : decode cX4_isFull 9 = .ok (.if_icmp .lt 7, 3) := by decide +kernel
theorem dX4_isFull_12 : decode cX4_isFull 12 = .ok (.iconst 1, 1) := by decide +kernel
theorem dX4_isFull_13 : decode cX4_isFull 13 = .ok (.goto 4, 3) := by decide +kernel
theorem dX4_isFull_16 : decode cX4_isFull 16 = .ok (.iconst 0, 1) := by decide +kernel
theorem dX4_isFull_17 : decode cX4_isFull 17 = .ok (.ireturn, 1) := by decide +kernel
theorem dX4_takeRow_0 : decode cX4_takeRow 0 = .ok (.aload_n 0, 1) := by decide +kernel
theorem dX4_takeRow_1 : decode cX4_takeRow 1 = .ok (.getfield 13, 3) := by decide +kernel
theorem dX4_takeRow_4 : decode cX4_takeRow 4 = .ok (.aload_n 0, 1) := by decide +kernel
theorem dX4_takeRow_5 : decode cX4_takeRow 5 = .ok (.getfield 22, 3) := by decide +kernel
theorem dX4_takeRow_8 : decode cX4_takeRow 8 = .ok (.iload_n 1, 1) := by decide +kernel
theorem dX4_takeRow_9 : decode cX4_takeRow 9 = .ok (.iastore, 1) := by decide +kernel
theorem dX4_takeRow_10 : decode cX4_takeRow 10 = .ok (.aload_n 0, 1) := by decide +kernel
theorem dX4_takeRow_11 : decode cX4_takeRow 11 = .ok (.getfield 19, 3) := by decide +kernel
theorem dX4_takeRow_14 : decode cX4_takeRow 14 = .ok (.aload_n 0, 1) := by decide +kernel
theorem dX4_takeRow_15 : decode cX4_takeRow 15 = .ok (.getfield 22, 3) := by decide +kernel
theorem dX4_takeRow_18 : decode cX4_takeRow 18 = .ok (.iload_n 2, 1) := by decide +kernel
theorem dX4_takeRow_19 : decode cX4_takeRow 19 = .ok (.iastore, 1) := by decide +kernel
theorem dX4_takeRow_20 : decode cX4_takeRow 20 = .ok (.aload_n 0, 1) := by decide +kernel
theorem dX4_takeRow_21 : decode cX4_takeRow 21 = .ok (.dup, 1) := by decide +kernel
theorem dX4_takeRow_22 : decode cX4_takeRow 22 = .ok (.getfield 22, 3) := by decide +kernel
theorem dX4_takeRow_25 : decode cX4_takeRow 25 = .ok (.iconst 1, 1) := by decide +kernel
theorem dX4_takeRow_26 : decode cX4_takeRow 26 = .ok (.iadd, 1) := by decide +kernel
theorem dX4_takeRow_27 : decode cX4_takeRow 27 = .ok (.putfield 22, 3) := by decide +kernel
theorem dX4_takeRow_30 : decode cX4_takeRow 30 = .ok (.aload_n 0, 1) := by decide +kernel
theorem dX4_takeRow_31 : decode cX4_takeRow 31 = .ok (.getfield 22, 3) := by decide +kernel
theorem dX4_takeRow_34 : decode cX4_takeRow 34 = .ok (.ireturn, 1) := by decide +kernel
theorem dX5_init_0 : decode cX5_init 0 = .ok (.aload_n 0, 1) := by decide +kernel
theorem dX5_init_1 : decode cX5_init 1 = .ok (.invokespecial 3, 3) := by decide +kernel
theorem dX5_init_4 : decode cX5_init 4 = .ok (.aload_n 0, 1) := by decide +kernel
theorem dX5_init_5 : decode cX5_init 5 = .ok (.iconst 4, 1) := by decide +kernel
theorem dX5_init_6 : decode cX5_init 6 = .ok (.anewarray 9, 3) := by decide +kernel
theorem dX5_init_9 : decode cX5_init 9 = .ok (.putfield 11, 3) := by decide +kernel
theorem dX5_init_12 : decode cX5_init 12 = .ok (.iconst 0, 1) := by decide +kernel
theorem dX5_init_13 : decode cX5_init 13 = .ok (.istore_n 1, 1) := by decide +kernel
theorem dX5_init_14 : decode cX5_init 14 = .ok (.iload_n 1, 1) := by decide +kernel
theorem dX5_init_15 : decode cX5_init 15 = .ok (.iconst 4, 1) := by decide +kernel
theorem dX5_init_16 : decode cX5_init 16 = .ok (.if_icmp .ge 22, 3) := by decide +kernel
theorem dX5_init_19 : decode cX5_init 19 = .ok (.aload_n 0, 1) := by decide +kernel
theorem dX5_init_20 : decode cX5_init 20 = .ok (.getfield 11, 3) := by decide +kernel
theorem dX5_init_23 : decode cX5_init 23 = .ok (.iload_n 1, 1) := by decide +kernel
theorem dX5_init_24 : decode cX5_init 24 = .ok (.new 9, 3) := by decide +kernel
theorem dX5_init_27 : decode cX5_init 27 = .ok (.dup, 1) := by decide +kernel
theorem dX5_init_28 : decode cX5_init 28 = .ok (.invokespecial 17, 3) := by decide +kernel
theorem dX5_init_31 : decode cX5_init 31 = .ok (.aastore, 1) := by decide +kernel
theorem dX5_init_32 : decode cX5_init 32 = .ok (.iinc 1 1, 3) := by decide +kernel
theorem dX5_init_35 : decode cX5_init 35 = .ok (.goto (-21), 3) := by decide +kernel
theorem dX5_init_38 : decode cX5_init 38 = .ok (.aload_n 0, 1) := by decide +kernel
theorem dX5_init_39 : decode cX5_init 39 = .ok (.new 18, 3) := by decide +kernel
theorem dX5_init_42 : decode cX5_init 42 = .ok (.dup, 1) := by decide +kernel
theorem dX5_init_43 : decode cX5_init 43 = .ok (.invokespecial 20, 3) := by decide +kernel
theorem dX5_init_46 : decode cX5_init 46 = .ok (.putfield 21, 3) := by decide +kernel
theorem dX5_init_49 : decode cX5_init 49 = .ok (.aload_n 0, 1) := by decide +kernel
theorem dX5_init_50 : decode cX5_init 50 = .ok (.new 25, 3) := by decide +kernel
theorem dX5_init_53 : decode cX5_init 53 = .ok (.dup, 1) := by decide +kernel
theorem dX5_init_54 : decode cX5_init 54 = .ok (.bipush 10, 2) := by decide +kernel
theorem dX5_init_56 : decode cX5_init 56 = .ok (.invokespecial 27, 3) := by decide +kernel
theorem dX5_init_59 : decode cX5_init 59 = .ok (.putfield 30, 3) := by decide +kernel
theorem dX5_init_62 : decode cX5_init 62 = .ok (.aload_n 0, 1) := by decide +kernel
theorem dX5_init_63 : decode cX5_init 63 = .ok (.new 25, 3) := by decide +kernel
theorem dX5_init_66 : decode cX5_init 66 = .ok (.dup, 1) := by decide +kernel
theorem dX5_init_67 : decode cX5_init 67 = .ok (.bipush 8, 2) := by decide +kernel
theorem dX5_init_69 : decode cX5_init 69 = .ok (.invokespecial 27, 3) := by decide +kernel
theorem dX5_init_72 : decode cX5_init 72 = .ok (.putfield 34, 3) := by decide +kernel
theorem dX5_init_75 : decode cX5_init 75 = .ok (.aload_n 0, 1) := by decide +kernel
theorem dX5_init_76 : decode cX5_init 76 = .ok (.iconst 5, 1) := by decide +kernel
theorem dX5_init_77 : decode cX5_init 77 = .ok (.putfield 37, 3) := by decide +kernel
theorem dX5_init_80 : decode cX5_init 80 = .ok (.aload_n 0, 1) := by decide +kernel
theorem dX5_init_81 : decode cX5_init 81 = .ok (.bipush 100, 2) := by decide +kernel
theorem dX5_init_83 : decode cX5_init 83 = .ok (.putfield 41, 3) := by decide +kernel
theorem dX5_init_86 : decode cX5_init 86 = .ok (.aload_n 0, 1) := by decide +kernel
theorem dX5_init_87 : decode cX5_init 87 = .ok (.bipush 50, 2) := by decide +kernel
theorem dX5_init_89 : decode cX5_init 89 = .ok (.putfield 44, 3) := by decide +kernel
theorem dX5_init_92 : decode cX5_init 92 = .ok (.return_, 1) := by decide +kernel
theorem dX5_copyFrom_0 : decode cX5_copyFrom 0 = .ok (.iconst 0, 1) := by decide +kernel
theorem dX5_copyFrom_1 : decode cX5_copyFrom 1 = .ok (.istore_n 2, 1) := by decide +kernel
theorem dX5_copyFrom_2 : decode cX5_copyFrom 2 = .ok (.iload_n 2, 1) := by decide +kernel
theorem dX5_copyFrom_3 : decode cX5_copyFrom 3 = .ok (.iconst 4, 1) := by decide +kernel
theorem dX5_copyFrom_4 : decode cX5_copyFrom 4 = .ok (.if_icmp .ge 24, 3) := by decide +kernel
theorem dX5_copyFrom_7 : decode cX5_copyFrom 7 = .ok (.aload_n 0, 1) := by decide +kernel
theorem dX5_copyFrom_8 : decode cX5_copyFrom 8 = .ok (.getfield 11, 3) := by decide +kernel
theorem dX5_copyFrom_11 : decode cX5_copyFrom 11 = .ok (.iload_n 2, 1) := by decide +kernel
theorem dX5_copyFrom_12 : decode cX5_copyFrom 12 = .ok (.aaload, 1) := by decide +kernel
theorem dX5_copyFrom_13 : decode cX5_copyFrom 13 = .ok (.aload_n 1, 1) := by decide +kernel
theorem dX5_copyFrom_14 : decode cX5_copyFrom 14 = .ok (.getfield 11, 3) := by decide +kernel
theorem dX5_copyFrom_17 : decode cX5_copyFrom 17 = .ok (.iload_n 2, 1) := by decide +kernel
theorem dX5_copyFrom_18 : decode cX5_copyFrom 18 = .ok (.aaload, 1) := by decide +kernel
theorem dX5_copyFrom_19 : decode cX5_copyFrom 19 = .ok (.invokevirtual 47, 3) := by decide +kernel
theorem dX5_copyFrom_22 : decode cX5_copyFrom 22 = .ok (.iinc 2 1, 3) := by decide +kernel
theorem dX5_copyFrom_25 : decode cX5_copyFrom 25 = .ok (.goto (-23), 3) := by decide +kernel
theorem dX5_copyFrom_28 : decode cX5_copyFrom 28 = .ok (.aload_n 0, 1) := by decide +kernel
theorem dX5_copyFrom_29 : decode cX5_copyFrom 29 = .ok (.getfield 21, 3) := by decide +kernel
theorem dX5_copyFrom_32 : decode cX5_copyFrom 32 = .ok (.aload_n 1, 1) := by decide +kernel
theorem dX5_copyFrom_33 : decode cX5_copyFrom 33 = .ok (.getfield 21, 3) := by decide +kernel
theorem dX5_copyFrom_36 : decode cX5_copyFrom 36 = .ok (.invokevirtual 51, 3) := by decide +kernel
theorem dX5_copyFrom_39 : decode cX5_copyFrom 39 = .ok (.aload_n 0, 1) := by decide +kernel
theorem dX5_copyFrom_40 : decode cX5_copyFrom 40 = .ok (.getfield 30, 3) := by decide +kernel
theorem dX5_copyFrom_43 : decode cX5_copyFrom 43 = .ok (.aload_n 1, 1) := by decide +kernel
theorem dX5_copyFrom_44 : decode cX5_copyFrom 44 = .ok (.getfield 30, 3) := by decide +kernel
theorem dX5_copyFrom_47 : decode cX5_copyFrom 47 = .ok (.invokevirtual 54, 3) := by decide +kernel
theorem dX5_copyFrom_50 : decode cX5_copyFrom 50 = .ok (.aload_n 0, 1) := by decide +kernel
theorem dX5_copyFrom_51 : decode cX5_copyFrom 51 = .ok (.getfield 34, 3) := by decide +kernel
theorem dX5_copyFrom_54 : decode cX5_copyFrom 54 = .ok (.aload_n 1, 1) := by decide +kernel
theorem dX5_copyFrom_55 : decode cX5_copyFrom 55 = .ok (.getfield 34, 3) := by decide +kernel
theorem dX5_copyFrom_58 : decode cX5_copyFrom 58 = .ok (.invokevirtual 54, 3) := by decide +kernel
theorem dX5_copyFrom_61 : decode cX5_copyFrom 61 = .ok (.aload_n 0, 1) := by decide +kernel
theorem dX5_copyFrom_62 : decode cX5_copyFrom 62 = .ok (.aload_n 1, 1) := by decide +kernel
theorem dX5_copyFrom_63 : decode cX5_copyFrom 63 = .ok (.getfield 57, 3) := by decide +kernel
theorem dX5_copyFrom_66 : decode cX5_copyFrom 66 = .ok (.putfield 57, 3) := by decide +kernel
theorem dX5_copyFrom_69 : decode cX5_copyFrom 69 = .ok (.aload_n 0, 1) := by decide +kernel
theorem dX5_copyFrom_70 : decode cX5_copyFrom 70 = .ok (.aload_n 1, 1) := by decide +kernel
theorem dX5_copyFrom_71 : decode cX5_copyFrom 71 = .ok (.getfield 37, 3) := by decide +kernel
theorem dX5_copyFrom_74 : decode cX5_copyFrom 74 = .ok (.putfield 37, 3) := by decide +kernel
theorem dX5_copyFrom_77 : decode cX5_copyFrom 77 = .ok (.aload_n 0, 1) := by decide +kernel
theorem dX5_copyFrom_78 : decode cX5_copyFrom 78 = .ok (.aload_n 1, 1) := by decide +kernel
theorem dX5_copyFrom_79 : decode cX5_copyFrom 79 = .ok (.getfield 41, 3) := by decide +kernel
theorem dX5_copyFrom_82 : decode cX5_copyFrom 82 = .ok (.putfield 41, 3) := by decide +kernel
theorem dX5_copyFrom_85 : decode cX5_copyFrom 85 = .ok (.aload_n 0, 1) := by decide +kernel
theorem dX5_copyFrom_86 : decode cX5_copyFrom 86 = .ok (.aload_n 1, 1) := by decide +kernel
theorem dX5_copyFrom_87 : decode cX5_copyFrom 87 = .ok (.getfield 44, 3) := by decide +kernel
theorem dX5_copyFrom_90 : decode cX5_copyFrom 90 = .ok (.putfield 44, 3) := by decide +kernel
theorem dX5_copyFrom_93 : decode cX5_copyFrom 93 = .ok (.return_, 1) := by decide +kernel
theorem dX5_records_0 : decode cX5_records 0 = .ok (.iconst 0, 1) := by decide +kernel
theorem dX5_records_1 : decode cX5_records 1 = .ok (.istore_n 1, 1) := by decide +kernel
theorem dX5_records_2 : decode cX5_records 2 = .ok (.iconst 0, 1) := by decide +kernel
theorem dX5_records_3 : decode cX5_records 3 = .ok (.istore_n 2, 1) := by decide +kernel
theorem dX5_records_4 : decode cX5_records 4 = .ok (.iload_n 2, 1) := by decide +kernel
theorem dX5_records_5 : decode cX5_records 5 = .ok (.iconst 4, 1) := by decide +kernel
theorem dX5_records_6 : decode cX5_records 6 = .ok (.if_icmp .ge 21, 3) := by decide +kernel
theorem dX5_records_9 : decode cX5_records 9 = .ok (.iload_n 1, 1) := by decide +kernel
theorem dX5_records_10 : decode cX5_records 10 = .ok (.aload_n 0, 1) := by decide +kernel
theorem dX5_records_11 : decode cX5_records 11 = .ok (.getfield 11, 3) := by decide +kernel
theorem dX5_records_14 : decode cX5_records 14 = .ok (.iload_n 2, 1) := by decide +kernel
theorem dX5_records_15 : decode cX5_records 15 = .ok (.aaload, 1) := by decide +kernel
theorem dX5_records_16 : decode cX5_records 16 = .ok (.invokevirtual 60, 3) := by decide +kernel
theorem dX5_records_19 : decode cX5_records 19 = .ok (.iadd, 1) := by decide +kernel
theorem dX5_records_20 : decode cX5_records 20 = .ok (.istore_n 1, 1) := by decide +kernel
theorem dX5_records_21 : decode cX5_records 21 = .ok (.iinc 2 1, 3) := by decide +kernel
theorem dX5_records_24 : decode cX5_records 24 = .ok (.goto (-20), 3) := by decide +kernel
theorem dX5_records_27 : decode cX5_records 27 = .ok (.iload_n 1, 1) := by decide +kernel
theorem dX5_records_28 : decode cX5_records 28 = .ok (.ireturn, 1) := by decide +kernel
theorem dX5_followPlan_0 : decode cX5_followPlan 0 = .ok (.iconst 0, 1) := by decide +kernel
theorem dX5_followPlan_1 : decode cX5_followPlan 1 = .ok (.istore_n 1, 1) := by decide +kernel
theorem dX5_followPlan_2 : decode cX5_followPlan 2 = .ok (.iload_n 1, 1) := by decide +kernel
theorem dX5_followPlan_3 : decode cX5_followPlan 3 = .ok (.aload_n 0, 1) := by decide +kernel
theorem dX5_followPlan_4 : decode cX5_followPlan 4 = .ok (.getfield 30, 3) := by decide +kernel
theorem dX5_followPlan_7 : decode cX5_followPlan 7 = .ok (.getfield 64, 3) := by decide +kernel
theorem dX5_followPlan_10 : decode cX5_followPlan 10 = .ok (.if_icmp .ge 31, 3) := by decide +kernel
theorem dX5_followPlan_13 : decode cX5_followPlan 13 = .ok (.aload_n 0, 1) := by decide +kernel
theorem dX5_followPlan_14 : decode cX5_followPlan 14 = .ok (.aload_n 0, 1) := by decide +kernel
theorem dX5_followPlan_15 : decode cX5_followPlan 15 = .ok (.getfield 30, 3) := by decide +kernel
theorem dX5_followPlan_18 : decode cX5_followPlan 18 = .ok (.getfield 67, 3) := by decide +kernel
theorem dX5_followPlan_21 : decode cX5_followPlan 21 = .ok (.iload_n 1, 1) := by decide +kernel
theorem dX5_followPlan_22 : decode cX5_followPlan 22 = .ok (.iaload, 1) := by decide +kernel
theorem dX5_followPlan_23 : decode cX5_followPlan 23 = .ok (.aload_n 0, 1) := by decide +kernel
theorem dX5_followPlan_24 : decode cX5_followPlan 24 = .ok (.getfield 30, 3) := by decide +kernel
theorem dX5_followPlan_27 : decode cX5_followPlan 27 = .ok (.getfield 71, 3) := by decide +kernel
theorem dX5_followPlan_30 : decode cX5_followPlan 30 = .ok (.iload_n 1, 1) := by decide +kernel
theorem dX5_followPlan_31 : decode cX5_followPlan 31 = .ok (.iaload, 1) := by decide +kernel
theorem dX5_followPlan_32 : decode cX5_followPlan 32 = .ok (.invokevirtual 74, 3) := by decide +kernel
theorem dX5_followPlan_35 : decode cX5_followPlan 35 = .ok (.iinc 1 1, 3) := by decide +kernel
theorem dX5_followPlan_38 : decode cX5_followPlan 38 = .ok (.goto (-36), 3) := by decide +kernel
theorem dX5_followPlan_41 : decode cX5_followPlan 41 = .ok (.return_, 1) := by decide +kernel
theorem dX5_follow_0 : decode cX5_follow 0 = .ok (.iload_n 1, 1) := by decide +kernel
theorem dX5_follow_1 : decode cX5_follow 1 = .ok (.tableswitch 89 0 2 #[27, 48, 73], 27) := by decide +kernel
theorem dX5_follow_28 : decode cX5_follow 28 = .ok (.aload_n 0, 1) := by decide +kernel
theorem dX5_follow_29 : decode cX5_follow 29 = .ok (.getfield 11, 3) := by decide +kernel
theorem dX5_follow_32 : decode cX5_follow 32 = .ok (.iload_n 2, 1) := by decide +kernel
theorem dX5_follow_33 : decode cX5_follow 33 = .ok (.aaload, 1) := by decide +kernel
theorem dX5_follow_34 : decode cX5_follow 34 = .ok (.aload_n 0, 1) := by decide +kernel
theorem dX5_follow_35 : decode cX5_follow 35 = .ok (.getfield 57, 3) := by decide +kernel
theorem dX5_follow_38 : decode cX5_follow 38 = .ok (.aload_n 0, 1) := by decide +kernel
theorem dX5_follow_39 : decode cX5_follow 39 = .ok (.getfield 37, 3) := by decide +kernel
theorem dX5_follow_42 : decode cX5_follow 42 = .ok (.invokevirtual 78, 3) := by decide +kernel
theorem dX5_follow_45 : decode cX5_follow 45 = .ok (.pop, 1) := by decide +kernel
theorem dX5_follow_46 : decode cX5_follow 46 = .ok (.goto 54, 3) := by decide +kernel
theorem dX5_follow_49 : decode cX5_follow 49 = .ok (.aload_n 0, 1) := by decide +kernel
theorem dX5_follow_50 : decode cX5_follow 50 = .ok (.getfield 11, 3) := by decide +kernel
theorem dX5_follow_53 : decode cX5_follow 53 = .ok (.iload_n 2, 1) := by decide +kernel
theorem dX5_follow_54 : decode cX5_follow 54 = .ok (.aaload, 1) := by decide +kernel
theorem dX5_follow_55 : decode cX5_follow 55 = .ok (.aload_n 0, 1) := by decide +kernel
theorem dX5_follow_56 : decode cX5_follow 56 = .ok (.getfield 41, 3) := by decide +kernel
theorem dX5_follow_59 : decode cX5_follow 59 = .ok (.aload_n 0, 1) := by decide +kernel
theorem dX5_follow_60 : decode cX5_follow 60 = .ok (.getfield 57, 3) := by decide +kernel
theorem dX5_follow_63 : decode cX5_follow 63 = .ok (.aload_n 0, 1) := by decide +kernel
theorem dX5_follow_64 : decode cX5_follow 64 = .ok (.getfield 44, 3) := by decide +kernel
theorem dX5_follow_67 : decode cX5_follow 67 = .ok (.invokevirtual 82, 3) := by decide +kernel
theorem dX5_follow_70 : decode cX5_follow 70 = .ok (.pop, 1) := by decide +kernel
theorem dX5_follow_71 : decode cX5_follow 71 = .ok (.goto 29, 3) := by decide +kernel
theorem dX5_follow_74 : decode cX5_follow 74 = .ok (.aload_n 0, 1) := by decide +kernel
theorem dX5_follow_75 : decode cX5_follow 75 = .ok (.getfield 21, 3) := by decide +kernel
theorem dX5_follow_78 : decode cX5_follow 78 = .ok (.iload_n 2, 1) := by decide +kernel
theorem dX5_follow_79 : decode cX5_follow 79 = .ok (.aload_n 0, 1) := by decide +kernel
theorem dX5_follow_80 : decode cX5_follow 80 = .ok (.getfield 11, 3) := by decide +kernel
theorem dX5_follow_83 : decode cX5_follow 83 = .ok (.invokevirtual 86, 3) := by decide +kernel
theorem dX5_follow_86 : decode cX5_follow 86 = .ok (.pop, 1) := by decide +kernel
theorem dX5_follow_87 : decode cX5_follow 87 = .ok (.goto 13, 3) := by decide +kernel
theorem dX5_follow_90 : decode cX5_follow 90 = .ok (.aload_n 0, 1) := by decide +kernel
theorem dX5_follow_91 : decode cX5_follow 91 = .ok (.dup, 1) := by decide +kernel
theorem dX5_follow_92 : decode cX5_follow 92 = .ok (.getfield 57, 3) := by decide +kernel
theorem dX5_follow_95 : decode cX5_follow 95 = .ok (.iload_n 2, 1) := by decide +kernel
theorem dX5_follow_96 : decode cX5_follow 96 = .ok (.iadd, 1) := by decide +kernel
theorem dX5_follow_97 : decode cX5_follow 97 = .ok (.putfield 57, 3) := by decide +kernel
theorem dX5_follow_100 : decode cX5_follow 100 = .ok (.return_, 1) := by decide +kernel
theorem dX5_firstOtherwise_0 : decode cX5_firstOtherwise 0 = .ok (.iconst 0, 1) := by decide +kernel
theorem dX5_firstOtherwise_1 : decode cX5_firstOtherwise 1 = .ok (.istore_n 1, 1) := by decide +kernel
theorem dX5_firstOtherwise_2 : decode cX5_firstOtherwise 2 = .ok (.iload_n 1, 1) := by decide +kernel
theorem dX5_firstOtherwise_3 : decode cX5_firstOtherwise 3 = .ok (.aload_n 0, 1) := by decide +kernel
theorem dX5_firstOtherwise_4 : decode cX5_firstOtherwise 4 = .ok (.getfield 34, 3) := by decide +kernel
theorem dX5_firstOtherwise_7 : decode cX5_firstOtherwise 7 = .ok (.getfield 64, 3) := by decide +kernel
theorem dX5_firstOtherwise_10 : decode cX5_firstOtherwise 10 = .ok (.if_icmp .ge 40, 3) := by decide +kernel
theorem dX5_firstOtherwise_13 : decode cX5_firstOtherwise 13 = .ok (.aload_n 0, 1) := by decide +kernel
theorem dX5_firstOtherwise_14 : decode cX5_firstOtherwise 14 = .ok (.getfield 11, 3) := by decide +kernel
theorem dX5_firstOtherwise_17 : decode cX5_firstOtherwise 17 = .ok (.aload_n 0, 1) := by decide +kernel
theorem dX5_firstOtherwise_18 : decode cX5_firstOtherwise 18 = .ok (.getfield 34, 3) := by decide +kernel
theorem dX5_firstOtherwise_21 : decode cX5_firstOtherwise 21 = .ok (.getfield 67, 3) := by decide +kernel
theorem dX5_firstOtherwise_24 : decode cX5_firstOtherwise 24 = .ok (.iload_n 1, 1) := by decide +kernel
theorem dX5_firstOtherwise_25 : decode cX5_firstOtherwise 25 = .ok (.iaload, 1) := by decide +kernel
theorem dX5_firstOtherwise_26 : decode cX5_firstOtherwise 26 = .ok (.aaload, 1) := by decide +kernel
theorem dX5_firstOtherwise_27 : decode cX5_firstOtherwise 27 = .ok (.invokevirtual 90, 3) := by decide +kernel
theorem dX5_firstOtherwise_30 : decode cX5_firstOtherwise 30 = .ok (.aload_n 0, 1) := by decide +kernel
theorem dX5_firstOtherwise_31 : decode cX5_firstOtherwise 31 = .ok (.getfield 34, 3) := by decide +kernel
theorem dX5_firstOtherwise_34 : decode cX5_firstOtherwise 34 = .ok (.getfield 71, 3) := by decide +kernel
theorem dX5_firstOtherwise_37 : decode cX5_firstOtherwise 37 = .ok (.iload_n 1, 1) := by decide +kernel
theorem dX5_firstOtherwise_38 : decode cX5_firstOtherwise 38 = .ok (.iaload, 1) := by decide +kernel
theorem dX5_firstOtherwise_39 : decode cX5_firstOtherwise 39 = .ok (.if_icmp .eq 5, 3) := by decide +kernel
theorem dX5_firstOtherwise_42 : decode cX5_firstOtherwise 42 = .ok (.iload_n 1, 1) := by decide +kernel
theorem dX5_firstOtherwise_43 : decode cX5_firstOtherwise 43 = .ok (.ireturn, 1) := by decide +kernel
theorem dX5_firstOtherwise_44 : decode cX5_firstOtherwise 44 = .ok (.iinc 1 1, 3) := by decide +kernel
theorem dX5_firstOtherwise_47 : decode cX5_firstOtherwise 47 = .ok (.goto (-45), 3) := by decide +kernel
theorem dX5_firstOtherwise_50 : decode cX5_firstOtherwise 50 = .ok (.bipush (-5), 2) := by decide +kernel
theorem dX5_firstOtherwise_52 : decode cX5_firstOtherwise 52 = .ok (.ireturn, 1) := by decide +kernel
theorem dX6_init_0 : decode cX6_init 0 = .ok (.aload_n 0, 1) := by decide +kernel
theorem dX6_init_1 : decode cX6_init 1 = .ok (.invokespecial 3, 3) := by decide +kernel
theorem dX6_init_4 : decode cX6_init 4 = .ok (.aload_n 0, 1) := by decide +kernel
theorem dX6_init_5 : decode cX6_init 5 = .ok (.bipush 60, 2) := by decide +kernel
theorem dX6_init_7 : decode cX6_init 7 = .ok (.newarray .long, 2) := by decide +kernel
theorem dX6_init_9 : decode cX6_init 9 = .ok (.putfield 9, 3) := by decide +kernel
theorem dX6_init_12 : decode cX6_init 12 = .ok (.aload_n 0, 1) := by decide +kernel
theorem dX6_init_13 : decode cX6_init 13 = .ok (.iconst (-1), 1) := by decide +kernel
theorem dX6_init_14 : decode cX6_init 14 = .ok (.putfield 15, 3) := by decide +kernel
theorem dX6_init_17 : decode cX6_init 17 = .ok (.return_, 1) := by decide +kernel
theorem dX6_isNothing_0 : decode cX6_isNothing 0 = .ok (.aload_n 0, 1) := by decide +kernel
theorem dX6_isNothing_1 : decode cX6_isNothing 1 = .ok (.getfield 15, 3) := by decide +kernel
theorem dX6_isNothing_4 : decode cX6_isNothing 4 = .ok (.iconst (-1), 1) := by decide +kernel
theorem dX6_isNothing_5 : decode cX6_isNothing 5 = .ok (.if_icmp .ne 7, 3) := by decide +kernel
theorem dX6_isNothing_8 : decode cX6_isNothing 8 = .ok (.iconst 1, 1) := by decide +kernel
theorem dX6_isNothing_9 : decode cX6_isNothing 9 = .ok (.goto 4, 3) := by decide +kernel
theorem dX6_isNothing_12 : decode cX6_isNothing 12 = .ok (.iconst 0, 1) := by decide +kernel
theorem dX6_isNothing_13 : decode cX6_isNothing 13 = .ok (.ireturn, 1) := by decide +kernel
theorem dX6_empty_0 : decode cX6_empty 0 = .ok (.aload_n 0, 1) := by decide +kernel
theorem dX6_empty_1 : decode cX6_empty 1 = .ok (.iconst (-1), 1) := by decide +kernel
theorem dX6_empty_2 : decode cX6_empty 2 = .ok (.putfield 15, 3) := by decide +kernel
theorem dX6_empty_5 : decode cX6_empty 5 = .ok (.aload_n 0, 1) := by decide +kernel
theorem dX6_empty_6 : decode cX6_empty 6 = .ok (.iconst 0, 1) := by decide +kernel
theorem dX6_empty_7 : decode cX6_empty 7 = .ok (.putfield 19, 3) := by decide +kernel
theorem dX6_empty_10 : decode cX6_empty 10 = .ok (.return_, 1) := by decide +kernel
theorem dX6_become_0 : decode cX6_become 0 = .ok (.aload_n 0, 1) := by decide +kernel
theorem dX6_become_1 : decode cX6_become 1 = .ok (.iload_n 1, 1) := by decide +kernel
theorem dX6_become_2 : decode cX6_become 2 = .ok (.putfield 15, 3) := by decide +kernel
theorem dX6_become_5 : decode cX6_become 5 = .ok (.aload_n 0, 1) := by decide +kernel
theorem dX6_become_6 : decode cX6_become 6 = .ok (.iload_n 2, 1) := by decide +kernel
theorem dX6_become_7 : decode cX6_become 7 = .ok (.bipush 60, 2) := by decide +kernel
theorem dX6_become_9 : decode cX6_become 9 = .ok (.invokestatic 22, 3) := by decide +kernel
theorem dX6_become_12 : decode cX6_become 12 = .ok (.putfield 19, 3) := by decide +kernel
theorem dX6_become_15 : decode cX6_become 15 = .ok (.iconst 0, 1) := by decide +kernel
theorem dX6_become_16 : decode cX6_become 16 = .ok (.istore_n 3, 1) := by decide +kernel
theorem dX6_become_17 : decode cX6_become 17 = .ok (.iload_n 3, 1) := by decide +kernel
theorem dX6_become_18 : decode cX6_become 18 = .ok (.bipush 60, 2) := by decide +kernel
theorem dX6_become_20 : decode cX6_become 20 = .ok (.if_icmp .ge 16, 3) := by decide +kernel
theorem dX6_become_23 : decode cX6_become 23 = .ok (.aload_n 0, 1) := by decide +kernel
theorem dX6_become_24 : decode cX6_become 24 = .ok (.getfield 9, 3) := by decide +kernel
theorem dX6_become_27 : decode cX6_become 27 = .ok (.iload_n 3, 1) := by decide +kernel
theorem dX6_become_28 : decode cX6_become 28 = .ok (.lconst 0, 1) := by decide +kernel
theorem dX6_become_29 : decode cX6_become 29 = .ok (.lastore, 1) := by decide +kernel
theorem dX6_become_30 : decode cX6_become 30 = .ok (.iinc 3 1, 3) := by decide +kernel
theorem dX6_become_33 : decode cX6_become 33 = .ok (.goto (-16), 3) := by decide +kernel
theorem dX6_become_36 : decode cX6_become 36 = .ok (.return_, 1) := by decide +kernel
theorem dX6_hasPlace_0 : decode cX6_hasPlace 0 = .ok (.iload_n 1, 1) := by decide +kernel
theorem dX6_hasPlace_1 : decode cX6_hasPlace 1 = .ok (.ifCond .lt 15, 3) := by decide +kernel
theorem dX6_hasPlace_4 : decode cX6_hasPlace 4 = .ok (.iload_n 1, 1) := by decide +kernel
theorem dX6_hasPlace_5 : decode cX6_hasPlace 5 = .ok (.aload_n 0, 1) := by decide +kernel
theorem dX6_hasPlace_6 : decode cX6_hasPlace 6 = .ok (.getfield 19, 3) := by decide +kernel
theorem dX6_hasPlace_9 : decode cX6_hasPlace 9 = .ok (.if_icmp .ge 7, 3) := by decide +kernel
theorem dX6_hasPlace_12 : decode cX6_hasPlace 12 = .ok (.iconst 1, 1) := by decide +kernel
theorem dX6_hasPlace_13 : decode cX6_hasPlace 13 = .ok (.goto 4, 3) := by decide +kernel
theorem dX6_hasPlace_16 : decode cX6_hasPlace 16 = .ok (.iconst 0, 1) := by decide +kernel
theorem dX6_hasPlace_17 : decode cX6_hasPlace 17 = .ok (.ireturn, 1) := by decide +kernel
theorem dX6_hasPlaces_0 : decode cX6_hasPlaces 0 = .ok (.iload_n 1, 1) := by decide +kernel
theorem dX6_hasPlaces_1 : decode cX6_hasPlaces 1 = .ok (.ifCond .lt 29, 3) := by decide +kernel
theorem dX6_hasPlaces_4 : decode cX6_hasPlaces 4 = .ok (.iload_n 2, 1) := by decide +kernel
theorem dX6_hasPlaces_5 : decode cX6_hasPlaces 5 = .ok (.ifCond .lt 25, 3) := by decide +kernel
theorem dX6_hasPlaces_8 : decode cX6_hasPlaces 8 = .ok (.iload_n 1, 1) := by decide +kernel
theorem dX6_hasPlaces_9 : decode cX6_hasPlaces 9 = .ok (.aload_n 0, 1) := by decide +kernel
theorem dX6_hasPlaces_10 : decode cX6_hasPlaces 10 = .ok (.getfield 19, 3) := by decide +kernel
theorem dX6_hasPlaces_13 : decode cX6_hasPlaces 13 = .ok (.if_icmp .gt 17, 3) := by decide +kernel
theorem dX6_hasPlaces_16 : decode cX6_hasPlaces 16 = .ok (.iload_n 2, 1) := by decide +kernel
theorem dX6_hasPlaces_17 : decode cX6_hasPlaces 17 = .ok (.aload_n 0, 1) := by decide +kernel
theorem dX6_hasPlaces_18 : decode cX6_hasPlaces 18 = .ok (.getfield 19, 3) := by decide +kernel
theorem dX6_hasPlaces_21 : decode cX6_hasPlaces 21 = .ok (.iload_n 1, 1) := by decide +kernel
theorem dX6_hasPlaces_22 : decode cX6_hasPlaces 22 = .ok (.isub, 1) := by decide +kernel
theorem dX6_hasPlaces_23 : decode cX6_hasPlaces 23 = .ok (.if_icmp .gt 7, 3) := by decide +kernel
theorem dX6_hasPlaces_26 : decode cX6_hasPlaces 26 = .ok (.iconst 1, 1) := by decide +kernel
theorem dX6_hasPlaces_27 : decode cX6_hasPlaces 27 = .ok (.goto 4, 3) := by decide +kernel
theorem dX6_hasPlaces_30 : decode cX6_hasPlaces 30 = .ok (.iconst 0, 1) := by decide +kernel
theorem dX6_hasPlaces_31 : decode cX6_hasPlaces 31 = .ok (.ireturn, 1) := by decide +kernel
theorem dX6_asItem_0 : decode cX6_asItem 0 = .ok (.aload_n 0, 1) := by decide +kernel
theorem dX6_asItem_1 : decode cX6_asItem 1 = .ok (.getfield 15, 3) := by decide +kernel
theorem dX6_asItem_4 : decode cX6_asItem 4 = .ok (.tableswitch 48 0 3 #[32, 37, 42, 46], 32) := by decide +kernel
theorem dX6_asItem_36 : decode cX6_asItem 36 = .ok (.lload_n 1, 1) := by decide +kernel
theorem dX6_asItem_37 : decode cX6_asItem 37 = .ok (.l2i, 1) := by decide +kernel
theorem dX6_asItem_38 : decode cX6_asItem 38 = .ok (.i2b, 1) := by decide +kernel
theorem dX6_asItem_39 : decode cX6_asItem 39 = .ok (.i2l, 1) := by decide +kernel
theorem dX6_asItem_40 : decode cX6_asItem 40 = .ok (.lreturn, 1) := by decide +kernel
theorem dX6_asItem_41 : decode cX6_asItem 41 = .ok (.lload_n 1, 1) := by decide +kernel
theorem dX6_asItem_42 : decode cX6_asItem 42 = .ok (.l2i, 1) := by decide +kernel
theorem dX6_asItem_43 : decode cX6_asItem 43 = .ok (.i2s, 1) := by decide +kernel
theorem dX6_asItem_44 : decode cX6_asItem 44 = .ok (.i2l, 1) := by decide +kernel
theorem dX6_asItem_45 : decode cX6_asItem 45 = .ok (.lreturn, 1) := by decide +kernel
theorem dX6_asItem_46 : decode cX6_asItem 46 = .ok (.lload_n 1, 1) := by decide +kernel
theorem dX6_asItem_47 : decode cX6_asItem 47 = .ok (.l2i, 1) := by decide +kernel
theorem dX6_asItem_48 : decode cX6_asItem 48 = .ok (.i2l, 1) := by decide +kernel
theorem dX6_asItem_49 : decode cX6_asItem 49 = .ok (.lreturn, 1) := by decide +kernel
theorem dX6_asItem_50 : decode cX6_asItem 50 = .ok (.lload_n 1, 1) := by decide +kernel
theorem dX6_asItem_51 : decode cX6_asItem 51 = .ok (.lreturn, 1) := by decide +kernel
theorem dX6_asItem_52 : decode cX6_asItem 52 = .ok (.lload_n 1, 1) := by decide +kernel
theorem dX6_asItem_53 : decode cX6_asItem 53 = .ok (.lconst 0, 1) := by decide +kernel
theorem dX6_asItem_54 : decode cX6_asItem 54 = .ok (.lcmp, 1) := by decide +kernel
theorem dX6_asItem_55 : decode cX6_asItem 55 = .ok (.ifCond .eq 7, 3) := by decide +kernel
theorem dX6_asItem_58 : decode cX6_asItem 58 = .ok (.lconst 1, 1) := by decide +kernel
theorem dX6_asItem_59 : decode cX6_asItem 59 = .ok (.goto 4, 3) := by decide +kernel
theorem dX6_asItem_62 : decode cX6_asItem 62 = .ok (.lconst 0, 1) := by decide +kernel
theorem dX6_asItem_63 : decode cX6_asItem 63 = .ok (.lreturn, 1) := by decide +kernel
theorem dX6_judged_0 : decode cX6_judged 0 = .ok (.iconst 0, 1) := by decide +kernel
theorem dX6_judged_1 : decode cX6_judged 1 = .ok (.istore_n 3, 1) := by decide +kernel
theorem dX6_judged_2 : decode cX6_judged 2 = .ok (.iconst 0, 1) := by decide +kernel
theorem dX6_judged_3 : decode cX6_judged 3 = .ok (.istore 4, 2) := by decide +kernel
theorem dX6_judged_5 : decode cX6_judged 5 = .ok (.iload 4, 2) := by decide +kernel
theorem dX6_judged_7 : decode cX6_judged 7 = .ok (.aload_n 1, 1) := by decide +kernel
theorem dX6_judged_8 : decode cX6_judged 8 = .ok (.getfield 28, 3) := by decide +kernel
theorem dX6_judged_11 : decode cX6_judged 11 = .ok (.if_icmp .ge 57, 3) := by decide +kernel
theorem dX6_judged_14 : decode cX6_judged 14 = .ok (.aload_n 1, 1) := by decide +kernel
theorem dX6_judged_15 : decode cX6_judged 15 = .ok (.iload 4, 2) := by decide +kernel
theorem dX6_judged_17 : decode cX6_judged 17 = .ok (.invokevirtual 33, 3) := by decide +kernel
theorem dX6_judged_20 : decode cX6_judged 20 = .ok (.ifCond .eq 42, 3) := by decide +kernel
theorem dX6_judged_23 : decode cX6_judged 23 = .ok (.iload_n 2, 1) := by decide +kernel
