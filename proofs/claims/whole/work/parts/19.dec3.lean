/-! ===== decoded ===== -/
theorem d108_33 : decode (mm_cb 108) 33 = .ok (.lreturn, 1) := by decide +kernel
theorem d109_0 : decode (mm_cb 109) 0 = .ok (.lload_n 0, 1) := by decide +kernel
theorem d109_1 : decode (mm_cb 109) 1 = .ok (.lload_n 2, 1) := by decide +kernel
theorem d109_2 : decode (mm_cb 109) 2 = .ok (.ladd, 1) := by decide +kernel
theorem d109_3 : decode (mm_cb 109) 3 = .ok (.ldc2_w 73, 3) := by decide +kernel
theorem d109_6 : decode (mm_cb 109) 6 = .ok (.lcmp, 1) := by decide +kernel
theorem d109_7 : decode (mm_cb 109) 7 = .ok (.ifCond .le 9, 3) := by decide +kernel
theorem d109_10 : decode (mm_cb 109) 10 = .ok (.ldc2_w 73, 3) := by decide +kernel
theorem d109_13 : decode (mm_cb 109) 13 = .ok (.goto 6, 3) := by decide +kernel
theorem d109_16 : decode (mm_cb 109) 16 = .ok (.lload_n 0, 1) := by decide +kernel
theorem d109_17 : decode (mm_cb 109) 17 = .ok (.lload_n 2, 1) := by decide +kernel
theorem d109_18 : decode (mm_cb 109) 18 = .ok (.ladd, 1) := by decide +kernel
theorem d109_19 : decode (mm_cb 109) 19 = .ok (.lreturn, 1) := by decide +kernel
theorem d110_0 : decode (mm_cb 110) 0 = .ok (.aload_n 0, 1) := by decide +kernel
theorem d110_1 : decode (mm_cb 110) 1 = .ok (.iload_n 1, 1) := by decide +kernel
theorem d110_2 : decode (mm_cb 110) 2 = .ok (.iload_n 2, 1) := by decide +kernel
theorem d110_3 : decode (mm_cb 110) 3 = .ok (.invokestatic 108, 3) := by decide +kernel
theorem d110_6 : decode (mm_cb 110) 6 = .ok (.putfield 65, 3) := by decide +kernel
theorem d110_9 : decode (mm_cb 110) 9 = .ok (.aload_n 0, 1) := by decide +kernel
theorem d110_10 : decode (mm_cb 110) 10 = .ok (.getfield 65, 3) := by decide +kernel
theorem d110_13 : decode (mm_cb 110) 13 = .ok (.ifCond .le 5, 3) := by decide +kernel
theorem d110_16 : decode (mm_cb 110) 16 = .ok (.lconst 0, 1) := by decide +kernel
theorem d110_17 : decode (mm_cb 110) 17 = .ok (.lreturn, 1) := by decide +kernel
theorem d110_18 : decode (mm_cb 110) 18 = .ok (.aload_n 0, 1) := by decide +kernel
theorem d110_19 : decode (mm_cb 110) 19 = .ok (.invokevirtual 111, 3) := by decide +kernel
theorem d110_22 : decode (mm_cb 110) 22 = .ok (.aload_n 0, 1) := by decide +kernel
theorem d110_23 : decode (mm_cb 110) 23 = .ok (.getfield 23, 3) := by decide +kernel
theorem d110_26 : decode (mm_cb 110) 26 = .ok (.bipush 13, 2) := by decide +kernel
theorem d110_28 : decode (mm_cb 110) 28 = .ok (.iload_n 1, 1) := by decide +kernel
theorem d110_29 : decode (mm_cb 110) 29 = .ok (.imul, 1) := by decide +kernel
theorem d110_30 : decode (mm_cb 110) 30 = .ok (.iload_n 2, 1) := by decide +kernel
theorem d110_31 : decode (mm_cb 110) 31 = .ok (.iadd, 1) := by decide +kernel
theorem d110_32 : decode (mm_cb 110) 32 = .ok (.laload, 1) := by decide +kernel
theorem d110_33 : decode (mm_cb 110) 33 = .ok (.lreturn, 1) := by decide +kernel
theorem d111_0 : decode (mm_cb 111) 0 = .ok (.iload_n 0, 1) := by decide +kernel
theorem d111_1 : decode (mm_cb 111) 1 = .ok (.invokestatic 69, 3) := by decide +kernel
theorem d111_4 : decode (mm_cb 111) 4 = .ok (.ifCond .ne 7, 3) := by decide +kernel
theorem d111_7 : decode (mm_cb 111) 7 = .ok (.iconst 1, 1) := by decide +kernel
theorem d111_8 : decode (mm_cb 111) 8 = .ok (.goto 19, 3) := by decide +kernel
theorem d111_11 : decode (mm_cb 111) 11 = .ok (.iload_n 1, 1) := by decide +kernel
theorem d111_12 : decode (mm_cb 111) 12 = .ok (.iconst 1, 1) := by decide +kernel
theorem d111_13 : decode (mm_cb 111) 13 = .ok (.if_icmp .lt 9, 3) := by decide +kernel
theorem d111_16 : decode (mm_cb 111) 16 = .ok (.iload_n 1, 1) := by decide +kernel
theorem d111_17 : decode (mm_cb 111) 17 = .ok (.bipush 12, 2) := by decide +kernel
theorem d111_19 : decode (mm_cb 111) 19 = .ok (.if_icmp .le 7, 3) := by decide +kernel
theorem d111_22 : decode (mm_cb 111) 22 = .ok (.iconst 2, 1) := by decide +kernel
theorem d111_23 : decode (mm_cb 111) 23 = .ok (.goto 4, 3) := by decide +kernel
theorem d111_26 : decode (mm_cb 111) 26 = .ok (.iconst 0, 1) := by decide +kernel
theorem d111_27 : decode (mm_cb 111) 27 = .ok (.ireturn, 1) := by decide +kernel
theorem d112_0 : decode (mm_cb 112) 0 = .ok (.iconst 1, 1) := by decide +kernel
theorem d112_1 : decode (mm_cb 112) 1 = .ok (.istore_n 1, 1) := by decide +kernel
theorem d112_2 : decode (mm_cb 112) 2 = .ok (.iload_n 1, 1) := by decide +kernel
theorem d112_3 : decode (mm_cb 112) 3 = .ok (.bipush 13, 2) := by decide +kernel
theorem d112_5 : decode (mm_cb 112) 5 = .ok (.if_icmp .ge 68, 3) := by decide +kernel
theorem d112_8 : decode (mm_cb 112) 8 = .ok (.iconst 0, 1) := by decide +kernel
theorem d112_9 : decode (mm_cb 112) 9 = .ok (.istore_n 2, 1) := by decide +kernel
theorem d112_10 : decode (mm_cb 112) 10 = .ok (.iload_n 2, 1) := by decide +kernel
theorem d112_11 : decode (mm_cb 112) 11 = .ok (.bipush 6, 2) := by decide +kernel
theorem d112_13 : decode (mm_cb 112) 13 = .ok (.if_icmp .ge 54, 3) := by decide +kernel
theorem d112_16 : decode (mm_cb 112) 16 = .ok (.lconst 0, 1) := by decide +kernel
theorem d112_17 : decode (mm_cb 112) 17 = .ok (.lstore_n 3, 1) := by decide +kernel
theorem d112_18 : decode (mm_cb 112) 18 = .ok (.iconst 0, 1) := by decide +kernel
theorem d112_19 : decode (mm_cb 112) 19 = .ok (.istore 5, 2) := by decide +kernel
theorem d112_21 : decode (mm_cb 112) 21 = .ok (.iload 5, 2) := by decide +kernel
theorem d112_23 : decode (mm_cb 112) 23 = .ok (.aload_n 0, 1) := by decide +kernel
theorem d112_24 : decode (mm_cb 112) 24 = .ok (.getfield 7, 3) := by decide +kernel
theorem d112_27 : decode (mm_cb 112) 27 = .ok (.iload_n 2, 1) := by decide +kernel
theorem d112_28 : decode (mm_cb 112) 28 = .ok (.iaload, 1) := by decide +kernel
theorem d112_29 : decode (mm_cb 112) 29 = .ok (.if_icmp .ge 20, 3) := by decide +kernel
theorem d112_32 : decode (mm_cb 112) 32 = .ok (.lload_n 3, 1) := by decide +kernel
theorem d112_33 : decode (mm_cb 112) 33 = .ok (.aload_n 0, 1) := by decide +kernel
theorem d112_34 : decode (mm_cb 112) 34 = .ok (.iload_n 2, 1) := by decide +kernel
theorem d112_35 : decode (mm_cb 112) 35 = .ok (.iload 5, 2) := by decide +kernel
theorem d112_37 : decode (mm_cb 112) 37 = .ok (.iload_n 1, 1) := by decide +kernel
theorem d112_38 : decode (mm_cb 112) 38 = .ok (.invokevirtual 98, 3) := by decide +kernel
theorem d112_41 : decode (mm_cb 112) 41 = .ok (.ladd, 1) := by decide +kernel
theorem d112_42 : decode (mm_cb 112) 42 = .ok (.lstore_n 3, 1) := by decide +kernel
theorem d112_43 : decode (mm_cb 112) 43 = .ok (.iinc 5 1, 3) := by decide +kernel
theorem d112_46 : decode (mm_cb 112) 46 = .ok (.goto (-25), 3) := by decide +kernel
theorem d112_49 : decode (mm_cb 112) 49 = .ok (.aload_n 0, 1) := by decide +kernel
theorem d112_50 : decode (mm_cb 112) 50 = .ok (.getfield 23, 3) := by decide +kernel
theorem d112_53 : decode (mm_cb 112) 53 = .ok (.bipush 13, 2) := by decide +kernel
theorem d112_55 : decode (mm_cb 112) 55 = .ok (.iload_n 2, 1) := by decide +kernel
theorem d112_56 : decode (mm_cb 112) 56 = .ok (.imul, 1) := by decide +kernel
theorem d112_57 : decode (mm_cb 112) 57 = .ok (.iload_n 1, 1) := by decide +kernel
theorem d112_58 : decode (mm_cb 112) 58 = .ok (.iadd, 1) := by decide +kernel
theorem d112_59 : decode (mm_cb 112) 59 = .ok (.lload_n 3, 1) := by decide +kernel
theorem d112_60 : decode (mm_cb 112) 60 = .ok (.lastore, 1) := by decide +kernel
theorem d112_61 : decode (mm_cb 112) 61 = .ok (.iinc 2 1, 3) := by decide +kernel
theorem d112_64 : decode (mm_cb 112) 64 = .ok (.goto (-54), 3) := by decide +kernel
theorem d112_67 : decode (mm_cb 112) 67 = .ok (.iinc 1 1, 3) := by decide +kernel
theorem d112_70 : decode (mm_cb 112) 70 = .ok (.goto (-68), 3) := by decide +kernel
theorem d112_73 : decode (mm_cb 112) 73 = .ok (.return_, 1) := by decide +kernel
theorem d113_0 : decode (mm_cb 113) 0 = .ok (.lconst 0, 1) := by decide +kernel
theorem d113_1 : decode (mm_cb 113) 1 = .ok (.lstore 4, 2) := by decide +kernel
theorem d113_3 : decode (mm_cb 113) 3 = .ok (.iconst 0, 1) := by decide +kernel
theorem d113_4 : decode (mm_cb 113) 4 = .ok (.istore 6, 2) := by decide +kernel
theorem d113_6 : decode (mm_cb 113) 6 = .ok (.iload 6, 2) := by decide +kernel
theorem d113_8 : decode (mm_cb 113) 8 = .ok (.iload_n 3, 1) := by decide +kernel
theorem d113_9 : decode (mm_cb 113) 9 = .ok (.if_icmp .ge 51, 3) := by decide +kernel
theorem d113_12 : decode (mm_cb 113) 12 = .ok (.iconst 0, 1) := by decide +kernel
theorem d113_13 : decode (mm_cb 113) 13 = .ok (.istore 7, 2) := by decide +kernel
theorem d113_15 : decode (mm_cb 113) 15 = .ok (.iload 6, 2) := by decide +kernel
theorem d113_17 : decode (mm_cb 113) 17 = .ok (.iload 7, 2) := by decide +kernel
theorem d113_19 : decode (mm_cb 113) 19 = .ok (.iadd, 1) := by decide +kernel
theorem d113_20 : decode (mm_cb 113) 20 = .ok (.iload_n 3, 1) := by decide +kernel
theorem d113_21 : decode (mm_cb 113) 21 = .ok (.if_icmp .ge 33, 3) := by decide +kernel
theorem d113_24 : decode (mm_cb 113) 24 = .ok (.lload 4, 2) := by decide +kernel
theorem d113_26 : decode (mm_cb 113) 26 = .ok (.aload_n 0, 1) := by decide +kernel
theorem d113_27 : decode (mm_cb 113) 27 = .ok (.iload_n 1, 1) := by decide +kernel
theorem d113_28 : decode (mm_cb 113) 28 = .ok (.iload_n 2, 1) := by decide +kernel
theorem d113_29 : decode (mm_cb 113) 29 = .ok (.iload 6, 2) := by decide +kernel
theorem d113_31 : decode (mm_cb 113) 31 = .ok (.iload 7, 2) := by decide +kernel
theorem d113_33 : decode (mm_cb 113) 33 = .ok (.iload_n 3, 1) := by decide +kernel
theorem d113_34 : decode (mm_cb 113) 34 = .ok (.iconst 1, 1) := by decide +kernel
theorem d113_35 : decode (mm_cb 113) 35 = .ok (.isub, 1) := by decide +kernel
theorem d113_36 : decode (mm_cb 113) 36 = .ok (.iload 6, 2) := by decide +kernel
theorem d113_38 : decode (mm_cb 113) 38 = .ok (.isub, 1) := by decide +kernel
theorem d113_39 : decode (mm_cb 113) 39 = .ok (.iload 7, 2) := by decide +kernel
theorem d113_41 : decode (mm_cb 113) 41 = .ok (.isub, 1) := by decide +kernel
theorem d113_42 : decode (mm_cb 113) 42 = .ok (.invokevirtual 94, 3) := by decide +kernel
theorem d113_45 : decode (mm_cb 113) 45 = .ok (.ladd, 1) := by decide +kernel
theorem d113_46 : decode (mm_cb 113) 46 = .ok (.lstore 4, 2) := by decide +kernel
theorem d113_48 : decode (mm_cb 113) 48 = .ok (.iinc 7 1, 3) := by decide +kernel
theorem d113_51 : decode (mm_cb 113) 51 = .ok (.goto (-36), 3) := by decide +kernel
theorem d113_54 : decode (mm_cb 113) 54 = .ok (.iinc 6 1, 3) := by decide +kernel
theorem d113_57 : decode (mm_cb 113) 57 = .ok (.goto (-51), 3) := by decide +kernel
theorem d113_60 : decode (mm_cb 113) 60 = .ok (.lload 4, 2) := by decide +kernel
theorem d113_62 : decode (mm_cb 113) 62 = .ok (.lreturn, 1) := by decide +kernel
theorem d114_0 : decode (mm_cb 114) 0 = .ok (.aload_n 0, 1) := by decide +kernel
theorem d114_1 : decode (mm_cb 114) 1 = .ok (.getfield 13, 3) := by decide +kernel
theorem d114_4 : decode (mm_cb 114) 4 = .ok (.iconst 4, 1) := by decide +kernel
theorem d114_5 : decode (mm_cb 114) 5 = .ok (.iload_n 1, 1) := by decide +kernel
theorem d114_6 : decode (mm_cb 114) 6 = .ok (.imul, 1) := by decide +kernel
theorem d114_7 : decode (mm_cb 114) 7 = .ok (.iload_n 2, 1) := by decide +kernel
theorem d114_8 : decode (mm_cb 114) 8 = .ok (.iadd, 1) := by decide +kernel
theorem d114_9 : decode (mm_cb 114) 9 = .ok (.iaload, 1) := by decide +kernel
theorem d114_10 : decode (mm_cb 114) 10 = .ok (.istore 6, 2) := by decide +kernel
theorem d114_12 : decode (mm_cb 114) 12 = .ok (.iload 6, 2) := by decide +kernel
theorem d114_14 : decode (mm_cb 114) 14 = .ok (.ifCond .le 18, 3) := by decide +kernel
theorem d114_17 : decode (mm_cb 114) 17 = .ok (.aload_n 0, 1) := by decide +kernel
theorem d114_18 : decode (mm_cb 114) 18 = .ok (.aload_n 0, 1) := by decide +kernel
theorem d114_19 : decode (mm_cb 114) 19 = .ok (.iload_n 1, 1) := by decide +kernel
theorem d114_20 : decode (mm_cb 114) 20 = .ok (.iload_n 2, 1) := by decide +kernel
theorem d114_21 : decode (mm_cb 114) 21 = .ok (.iconst 0, 1) := by decide +kernel
theorem d114_22 : decode (mm_cb 114) 22 = .ok (.invokevirtual 75, 3) := by decide +kernel
theorem d114_25 : decode (mm_cb 114) 25 = .ok (.iload_n 3, 1) := by decide +kernel
theorem d114_26 : decode (mm_cb 114) 26 = .ok (.invokevirtual 90, 3) := by decide +kernel
theorem d114_29 : decode (mm_cb 114) 29 = .ok (.goto 12, 3) := by decide +kernel
theorem d114_32 : decode (mm_cb 114) 32 = .ok (.iload_n 3, 1) := by decide +kernel
theorem d114_33 : decode (mm_cb 114) 33 = .ok (.ifCond .ne 7, 3) := by decide +kernel
theorem d114_36 : decode (mm_cb 114) 36 = .ok (.lconst 1, 1) := by decide +kernel
theorem d114_37 : decode (mm_cb 114) 37 = .ok (.goto 4, 3) := by decide +kernel
theorem d114_40 : decode (mm_cb 114) 40 = .ok (.lconst 0, 1) := by decide +kernel
theorem d114_41 : decode (mm_cb 114) 41 = .ok (.lstore 7, 2) := by decide +kernel
theorem d114_43 : decode (mm_cb 114) 43 = .ok (.iload 6, 2) := by decide +kernel
theorem d114_45 : decode (mm_cb 114) 45 = .ok (.iconst 1, 1) := by decide +kernel
theorem d114_46 : decode (mm_cb 114) 46 = .ok (.if_icmp .le 22, 3) := by decide +kernel
theorem d114_49 : decode (mm_cb 114) 49 = .ok (.lload 7, 2) := by decide +kernel
theorem d114_51 : decode (mm_cb 114) 51 = .ok (.aload_n 0, 1) := by decide +kernel
theorem d114_52 : decode (mm_cb 114) 52 = .ok (.aload_n 0, 1) := by decide +kernel
theorem d114_53 : decode (mm_cb 114) 53 = .ok (.iload_n 1, 1) := by decide +kernel
theorem d114_54 : decode (mm_cb 114) 54 = .ok (.iload_n 2, 1) := by decide +kernel
theorem d114_55 : decode (mm_cb 114) 55 = .ok (.iconst 1, 1) := by decide +kernel
theorem d114_56 : decode (mm_cb 114) 56 = .ok (.invokevirtual 75, 3) := by decide +kernel
theorem d114_59 : decode (mm_cb 114) 59 = .ok (.iload 4, 2) := by decide +kernel
theorem d114_61 : decode (mm_cb 114) 61 = .ok (.invokevirtual 90, 3) := by decide +kernel
theorem d114_64 : decode (mm_cb 114) 64 = .ok (.lmul, 1) := by decide +kernel
theorem d114_65 : decode (mm_cb 114) 65 = .ok (.goto 14, 3) := by decide +kernel
theorem d114_68 : decode (mm_cb 114) 68 = .ok (.iload 4, 2) := by decide +kernel
theorem d114_70 : decode (mm_cb 114) 70 = .ok (.ifCond .ne 8, 3) := by decide +kernel
theorem d114_73 : decode (mm_cb 114) 73 = .ok (.lload 7, 2) := by decide +kernel
theorem d114_75 : decode (mm_cb 114) 75 = .ok (.goto 4, 3) := by decide +kernel
theorem d114_78 : decode (mm_cb 114) 78 = .ok (.lconst 0, 1) := by decide +kernel
theorem d114_79 : decode (mm_cb 114) 79 = .ok (.lstore 7, 2) := by decide +kernel
theorem d114_81 : decode (mm_cb 114) 81 = .ok (.iload 6, 2) := by decide +kernel
theorem d114_83 : decode (mm_cb 114) 83 = .ok (.iconst 2, 1) := by decide +kernel
theorem d114_84 : decode (mm_cb 114) 84 = .ok (.if_icmp .le 22, 3) := by decide +kernel
theorem d114_87 : decode (mm_cb 114) 87 = .ok (.lload 7, 2) := by decide +kernel
theorem d114_89 : decode (mm_cb 114) 89 = .ok (.aload_n 0, 1) := by decide +kernel
theorem d114_90 : decode (mm_cb 114) 90 = .ok (.aload_n 0, 1) := by decide +kernel
theorem d114_91 : decode (mm_cb 114) 91 = .ok (.iload_n 1, 1) := by decide +kernel
theorem d114_92 : decode (mm_cb 114) 92 = .ok (.iload_n 2, 1) := by decide +kernel
theorem d114_93 : decode (mm_cb 114) 93 = .ok (.iconst 2, 1) := by decide +kernel
theorem d114_94 : decode (mm_cb 114) 94 = .ok (.invokevirtual 75, 3) := by decide +kernel
theorem d114_97 : decode (mm_cb 114) 97 = .ok (.iload 5, 2) := by decide +kernel
theorem d114_99 : decode (mm_cb 114) 99 = .ok (.invokevirtual 90, 3) := by decide +kernel
theorem d114_102 : decode (mm_cb 114) 102 = .ok (.lmul, 1) := by decide +kernel
theorem d114_103 : decode (mm_cb 114) 103 = .ok (.goto 14, 3) := by decide +kernel
theorem d114_106 : decode (mm_cb 114) 106 = .ok (.iload 5, 2) := by decide +kernel
theorem d114_108 : decode (mm_cb 114) 108 = .ok (.ifCond .ne 8, 3) := by decide +kernel
theorem d114_111 : decode (mm_cb 114) 111 = .ok (.lload 7, 2) := by decide +kernel
theorem d114_113 : decode (mm_cb 114) 113 = .ok (.goto 4, 3) := by decide +kernel
theorem d114_116 : decode (mm_cb 114) 116 = .ok (.lconst 0, 1) := by decide +kernel
theorem d114_117 : decode (mm_cb 114) 117 = .ok (.lreturn, 1) := by decide +kernel
theorem d115_0 : decode (mm_cb 115) 0 = .ok (.iload_n 2, 1) := by decide +kernel
theorem d115_1 : decode (mm_cb 115) 1 = .ok (.iconst 1, 1) := by decide +kernel
theorem d115_2 : decode (mm_cb 115) 2 = .ok (.if_icmp .lt 9, 3) := by decide +kernel
theorem d115_5 : decode (mm_cb 115) 5 = .ok (.iload_n 2, 1) := by decide +kernel
theorem d115_6 : decode (mm_cb 115) 6 = .ok (.bipush 12, 2) := by decide +kernel
theorem d115_8 : decode (mm_cb 115) 8 = .ok (.if_icmp .le 7, 3) := by decide +kernel
theorem d115_11 : decode (mm_cb 115) 11 = .ok (.lconst 0, 1) := by decide +kernel
theorem d115_12 : decode (mm_cb 115) 12 = .ok (.goto 14, 3) := by decide +kernel
theorem d115_15 : decode (mm_cb 115) 15 = .ok (.aload_n 0, 1) := by decide +kernel
theorem d115_16 : decode (mm_cb 115) 16 = .ok (.getfield 23, 3) := by decide +kernel
theorem d115_19 : decode (mm_cb 115) 19 = .ok (.bipush 13, 2) := by decide +kernel
theorem d115_21 : decode (mm_cb 115) 21 = .ok (.iload_n 1, 1) := by decide +kernel
theorem d115_22 : decode (mm_cb 115) 22 = .ok (.imul, 1) := by decide +kernel
theorem d115_23 : decode (mm_cb 115) 23 = .ok (.iload_n 2, 1) := by decide +kernel
theorem d115_24 : decode (mm_cb 115) 24 = .ok (.iadd, 1) := by decide +kernel
theorem d115_25 : decode (mm_cb 115) 25 = .ok (.laload, 1) := by decide +kernel
theorem d115_26 : decode (mm_cb 115) 26 = .ok (.lreturn, 1) := by decide +kernel
theorem d116_0 : decode (mm_cb 116) 0 = .ok (.aload_n 0, 1) := by decide +kernel
theorem d116_1 : decode (mm_cb 116) 1 = .ok (.iload_n 1, 1) := by decide +kernel
theorem d116_2 : decode (mm_cb 116) 2 = .ok (.iload_n 2, 1) := by decide +kernel
theorem d116_3 : decode (mm_cb 116) 3 = .ok (.invokestatic 101, 3) := by decide +kernel
theorem d116_6 : decode (mm_cb 116) 6 = .ok (.putfield 65, 3) := by decide +kernel
theorem d116_9 : decode (mm_cb 116) 9 = .ok (.aload_n 0, 1) := by decide +kernel
theorem d116_10 : decode (mm_cb 116) 10 = .ok (.getfield 65, 3) := by decide +kernel
theorem d116_13 : decode (mm_cb 116) 13 = .ok (.ifCond .le 5, 3) := by decide +kernel
theorem d116_16 : decode (mm_cb 116) 16 = .ok (.iconst 0, 1) := by decide +kernel
theorem d116_17 : decode (mm_cb 116) 17 = .ok (.ireturn, 1) := by decide +kernel
theorem d116_18 : decode (mm_cb 116) 18 = .ok (.aload_n 0, 1) := by decide +kernel
theorem d116_19 : decode (mm_cb 116) 19 = .ok (.invokevirtual 105, 3) := by decide +kernel
theorem d116_22 : decode (mm_cb 116) 22 = .ok (.aload_n 0, 1) := by decide +kernel
theorem d116_23 : decode (mm_cb 116) 23 = .ok (.lload_n 3, 1) := by decide +kernel
theorem d116_24 : decode (mm_cb 116) 24 = .ok (.lconst 0, 1) := by decide +kernel
theorem d116_25 : decode (mm_cb 116) 25 = .ok (.lcmp, 1) := by decide +kernel
theorem d116_26 : decode (mm_cb 116) 26 = .ok (.ifCond .lt 29, 3) := by decide +kernel
theorem d116_29 : decode (mm_cb 116) 29 = .ok (.lload_n 3, 1) := by decide +kernel
theorem d116_30 : decode (mm_cb 116) 30 = .ok (.aload_n 0, 1) := by decide +kernel
theorem d116_31 : decode (mm_cb 116) 31 = .ok (.getfield 19, 3) := by decide +kernel
theorem d116_34 : decode (mm_cb 116) 34 = .ok (.bipush 6, 2) := by decide +kernel
theorem d116_36 : decode (mm_cb 116) 36 = .ok (.iload_n 1, 1) := by decide +kernel
theorem d116_37 : decode (mm_cb 116) 37 = .ok (.imul, 1) := by decide +kernel
theorem d116_38 : decode (mm_cb 116) 38 = .ok (.iload_n 2, 1) := by decide +kernel
theorem d116_39 : decode (mm_cb 116) 39 = .ok (.iadd, 1) := by decide +kernel
theorem d116_40 : decode (mm_cb 116) 40 = .ok (.iconst 1, 1) := by decide +kernel
theorem d116_41 : decode (mm_cb 116) 41 = .ok (.iadd, 1) := by decide +kernel
theorem d116_42 : decode (mm_cb 116) 42 = .ok (.laload, 1) := by decide +kernel
theorem d116_43 : decode (mm_cb 116) 43 = .ok (.lcmp, 1) := by decide +kernel
theorem d116_44 : decode (mm_cb 116) 44 = .ok (.ifCond .ge 11, 3) := by decide +kernel
theorem d116_47 : decode (mm_cb 116) 47 = .ok (.lload_n 3, 1) := by decide +kernel
theorem d116_48 : decode (mm_cb 116) 48 = .ok (.ldc2_w 73, 3) := by decide +kernel
theorem d116_51 : decode (mm_cb 116) 51 = .ok (.lcmp, 1) := by decide +kernel
theorem d116_52 : decode (mm_cb 116) 52 = .ok (.ifCond .lt 7, 3) := by decide +kernel
theorem d116_55 : decode (mm_cb 116) 55 = .ok (.iconst 3, 1) := by decide +kernel
theorem d116_56 : decode (mm_cb 116) 56 = .ok (.goto 4, 3) := by decide +kernel
theorem d116_59 : decode (mm_cb 116) 59 = .ok (.iconst 0, 1) := by decide +kernel
theorem d116_60 : decode (mm_cb 116) 60 = .ok (.putfield 65, 3) := by decide +kernel
theorem d116_63 : decode (mm_cb 116) 63 = .ok (.aload_n 0, 1) := by decide +kernel
theorem d116_64 : decode (mm_cb 116) 64 = .ok (.getfield 65, 3) := by decide +kernel
theorem d116_67 : decode (mm_cb 116) 67 = .ok (.ifCond .le 5, 3) := by decide +kernel
theorem d116_70 : decode (mm_cb 116) 70 = .ok (.iconst 0, 1) := by decide +kernel
theorem d116_71 : decode (mm_cb 116) 71 = .ok (.ireturn, 1) := by decide +kernel
theorem d116_72 : decode (mm_cb 116) 72 = .ok (.aload_n 0, 1) := by decide +kernel
theorem d116_73 : decode (mm_cb 116) 73 = .ok (.iload_n 1, 1) := by decide +kernel
theorem d116_74 : decode (mm_cb 116) 74 = .ok (.iload_n 2, 1) := by decide +kernel
theorem d116_75 : decode (mm_cb 116) 75 = .ok (.lload_n 3, 1) := by decide +kernel
theorem d116_76 : decode (mm_cb 116) 76 = .ok (.invokevirtual 135, 3) := by decide +kernel
theorem d116_79 : decode (mm_cb 116) 79 = .ok (.aload_n 0, 1) := by decide +kernel
theorem d116_80 : decode (mm_cb 116) 80 = .ok (.invokevirtual 138, 3) := by decide +kernel
theorem d116_83 : decode (mm_cb 116) 83 = .ok (.aload_n 0, 1) := by decide +kernel
theorem d116_84 : decode (mm_cb 116) 84 = .ok (.getfield 132, 3) := by decide +kernel
theorem d116_87 : decode (mm_cb 116) 87 = .ok (.ireturn, 1) := by decide +kernel
theorem d117_0 : decode (mm_cb 117) 0 = .ok (.aload_n 0, 1) := by decide +kernel
theorem d117_1 : decode (mm_cb 117) 1 = .ok (.invokevirtual 121, 3) := by decide +kernel
theorem d117_4 : decode (mm_cb 117) 4 = .ok (.aload_n 0, 1) := by decide +kernel
theorem d117_5 : decode (mm_cb 117) 5 = .ok (.iconst 0, 1) := by decide +kernel
theorem d117_6 : decode (mm_cb 117) 6 = .ok (.putfield 114, 3) := by decide +kernel
theorem d117_9 : decode (mm_cb 117) 9 = .ok (.aload_n 0, 1) := by decide +kernel
theorem d117_10 : decode (mm_cb 117) 10 = .ok (.iconst 0, 1) := by decide +kernel
theorem d117_11 : decode (mm_cb 117) 11 = .ok (.iload_n 1, 1) := by decide +kernel
theorem d117_12 : decode (mm_cb 117) 12 = .ok (.lload_n 3, 1) := by decide +kernel
theorem d117_13 : decode (mm_cb 117) 13 = .ok (.invokevirtual 117, 3) := by decide +kernel
theorem d117_16 : decode (mm_cb 117) 16 = .ok (.aload_n 0, 1) := by decide +kernel
theorem d117_17 : decode (mm_cb 117) 17 = .ok (.getfield 114, 3) := by decide +kernel
theorem d117_20 : decode (mm_cb 117) 20 = .ok (.ifCond .le 58, 3) := by decide +kernel
theorem d117_23 : decode (mm_cb 117) 23 = .ok (.aload_n 0, 1) := by decide +kernel
theorem d117_24 : decode (mm_cb 117) 24 = .ok (.dup, 1) := by decide +kernel
theorem d117_25 : decode (mm_cb 117) 25 = .ok (.getfield 114, 3) := by decide +kernel
theorem d117_28 : decode (mm_cb 117) 28 = .ok (.iconst 1, 1) := by decide +kernel
theorem d117_29 : decode (mm_cb 117) 29 = .ok (.isub, 1) := by decide +kernel
theorem d117_30 : decode (mm_cb 117) 30 = .ok (.putfield 114, 3) := by decide +kernel
theorem d117_33 : decode (mm_cb 117) 33 = .ok (.aload_n 0, 1) := by decide +kernel
theorem d117_34 : decode (mm_cb 117) 34 = .ok (.getfield 35, 3) := by decide +kernel
theorem d117_37 : decode (mm_cb 117) 37 = .ok (.aload_n 0, 1) := by decide +kernel
theorem d117_38 : decode (mm_cb 117) 38 = .ok (.getfield 114, 3) := by decide +kernel
theorem d117_41 : decode (mm_cb 117) 41 = .ok (.iaload, 1) := by decide +kernel
theorem d117_42 : decode (mm_cb 117) 42 = .ok (.istore 5, 2) := by decide +kernel
theorem d117_44 : decode (mm_cb 117) 44 = .ok (.aload_n 0, 1) := by decide +kernel
theorem d117_45 : decode (mm_cb 117) 45 = .ok (.iload 5, 2) := by decide +kernel
theorem d117_47 : decode (mm_cb 117) 47 = .ok (.aload_n 0, 1) := by decide +kernel
theorem d117_48 : decode (mm_cb 117) 48 = .ok (.getfield 38, 3) := by decide +kernel
theorem d117_51 : decode (mm_cb 117) 51 = .ok (.aload_n 0, 1) := by decide +kernel
theorem d117_52 : decode (mm_cb 117) 52 = .ok (.getfield 114, 3) := by decide +kernel
theorem d117_55 : decode (mm_cb 117) 55 = .ok (.iaload, 1) := by decide +kernel
theorem d117_56 : decode (mm_cb 117) 56 = .ok (.iload_n 2, 1) := by decide +kernel
theorem d117_57 : decode (mm_cb 117) 57 = .ok (.iload 5, 2) := by decide +kernel
theorem d117_59 : decode (mm_cb 117) 59 = .ok (.invokestatic 124, 3) := by decide +kernel
theorem d117_62 : decode (mm_cb 117) 62 = .ok (.isub, 1) := by decide +kernel
theorem d117_63 : decode (mm_cb 117) 63 = .ok (.aload_n 0, 1) := by decide +kernel
theorem d117_64 : decode (mm_cb 117) 64 = .ok (.getfield 41, 3) := by decide +kernel
theorem d117_67 : decode (mm_cb 117) 67 = .ok (.aload_n 0, 1) := by decide +kernel
theorem d117_68 : decode (mm_cb 117) 68 = .ok (.getfield 114, 3) := by decide +kernel
theorem d117_71 : decode (mm_cb 117) 71 = .ok (.laload, 1) := by decide +kernel
theorem d117_72 : decode (mm_cb 117) 72 = .ok (.invokevirtual 128, 3) := by decide +kernel
theorem d117_75 : decode (mm_cb 117) 75 = .ok (.goto (-59), 3) := by decide +kernel
theorem d117_78 : decode (mm_cb 117) 78 = .ok (.return_, 1) := by decide +kernel
theorem d118_0 : decode (mm_cb 118) 0 = .ok (.iconst 0, 1) := by decide +kernel
theorem d118_1 : decode (mm_cb 118) 1 = .ok (.istore_n 1, 1) := by decide +kernel
theorem d118_2 : decode (mm_cb 118) 2 = .ok (.iload_n 1, 1) := by decide +kernel
theorem d118_3 : decode (mm_cb 118) 3 = .ok (.sipush 256, 3) := by decide +kernel
theorem d118_6 : decode (mm_cb 118) 6 = .ok (.if_icmp .ge 16, 3) := by decide +kernel
theorem d118_9 : decode (mm_cb 118) 9 = .ok (.aload_n 0, 1) := by decide +kernel
theorem d118_10 : decode (mm_cb 118) 10 = .ok (.getfield 26, 3) := by decide +kernel
theorem d118_13 : decode (mm_cb 118) 13 = .ok (.iload_n 1, 1) := by decide +kernel
theorem d118_14 : decode (mm_cb 118) 14 = .ok (.iconst (-1), 1) := by decide +kernel
theorem d118_15 : decode (mm_cb 118) 15 = .ok (.iastore, 1) := by decide +kernel
theorem d118_16 : decode (mm_cb 118) 16 = .ok (.iinc 1 1, 3) := by decide +kernel
theorem d118_19 : decode (mm_cb 118) 19 = .ok (.goto (-17), 3) := by decide +kernel
theorem d118_22 : decode (mm_cb 118) 22 = .ok (.return_, 1) := by decide +kernel
theorem d119_0 : decode (mm_cb 119) 0 = .ok (.aload_n 0, 1) := by decide +kernel
theorem d119_1 : decode (mm_cb 119) 1 = .ok (.getfield 35, 3) := by decide +kernel
theorem d119_4 : decode (mm_cb 119) 4 = .ok (.aload_n 0, 1) := by decide +kernel
theorem d119_5 : decode (mm_cb 119) 5 = .ok (.getfield 114, 3) := by decide +kernel
theorem d119_8 : decode (mm_cb 119) 8 = .ok (.iload_n 1, 1) := by decide +kernel
theorem d119_9 : decode (mm_cb 119) 9 = .ok (.iastore, 1) := by decide +kernel
theorem d119_10 : decode (mm_cb 119) 10 = .ok (.aload_n 0, 1) := by decide +kernel
theorem d119_11 : decode (mm_cb 119) 11 = .ok (.getfield 38, 3) := by decide +kernel
theorem d119_14 : decode (mm_cb 119) 14 = .ok (.aload_n 0, 1) := by decide +kernel
theorem d119_15 : decode (mm_cb 119) 15 = .ok (.getfield 114, 3) := by decide +kernel
theorem d119_18 : decode (mm_cb 119) 18 = .ok (.iload_n 2, 1) := by decide +kernel
theorem d119_19 : decode (mm_cb 119) 19 = .ok (.iastore, 1) := by decide +kernel
theorem d119_20 : decode (mm_cb 119) 20 = .ok (.aload_n 0, 1) := by decide +kernel
theorem d119_21 : decode (mm_cb 119) 21 = .ok (.getfield 41, 3) := by decide +kernel
theorem d119_24 : decode (mm_cb 119) 24 = .ok (.aload_n 0, 1) := by decide +kernel
theorem d119_25 : decode (mm_cb 119) 25 = .ok (.getfield 114, 3) := by decide +kernel
theorem d119_28 : decode (mm_cb 119) 28 = .ok (.lload_n 3, 1) := by decide +kernel
theorem d119_29 : decode (mm_cb 119) 29 = .ok (.lastore, 1) := by decide +kernel
theorem d119_30 : decode (mm_cb 119) 30 = .ok (.aload_n 0, 1) := by decide +kernel
theorem d119_31 : decode (mm_cb 119) 31 = .ok (.dup, 1) := by decide +kernel
theorem d119_32 : decode (mm_cb 119) 32 = .ok (.getfield 114, 3) := by decide +kernel
theorem d119_35 : decode (mm_cb 119) 35 = .ok (.iconst 1, 1) := by decide +kernel
theorem d119_36 : decode (mm_cb 119) 36 = .ok (.iadd, 1) := by decide +kernel
theorem d119_37 : decode (mm_cb 119) 37 = .ok (.putfield 114, 3) := by decide +kernel
theorem d119_40 : decode (mm_cb 119) 40 = .ok (.return_, 1) := by decide +kernel
theorem d120_0 : decode (mm_cb 120) 0 = .ok (.iconst 0, 1) := by decide +kernel
theorem d120_1 : decode (mm_cb 120) 1 = .ok (.istore_n 1, 1) := by decide +kernel
theorem d120_2 : decode (mm_cb 120) 2 = .ok (.iload_n 0, 1) := by decide +kernel
theorem d120_3 : decode (mm_cb 120) 3 = .ok (.istore_n 2, 1) := by decide +kernel
theorem d120_4 : decode (mm_cb 120) 4 = .ok (.iload_n 2, 1) := by decide +kernel
theorem d120_5 : decode (mm_cb 120) 5 = .ok (.ifCond .le 15, 3) := by decide +kernel
theorem d120_8 : decode (mm_cb 120) 8 = .ok (.iinc 1 1, 3) := by decide +kernel
theorem d120_11 : decode (mm_cb 120) 11 = .ok (.iload_n 2, 1) := by decide +kernel
theorem d120_12 : decode (mm_cb 120) 12 = .ok (.iconst 1, 1) := by decide +kernel
theorem d120_13 : decode (mm_cb 120) 13 = .ok (.isub, 1) := by decide +kernel
theorem d120_14 : decode (mm_cb 120) 14 = .ok (.iconst 4, 1) := by decide +kernel
theorem d120_15 : decode (mm_cb 120) 15 = .ok (.idiv, 1) := by decide +kernel
theorem d120_16 : decode (mm_cb 120) 16 = .ok (.istore_n 2, 1) := by decide +kernel
theorem d120_17 : decode (mm_cb 120) 17 = .ok (.goto (-13), 3) := by decide +kernel
theorem d120_20 : decode (mm_cb 120) 20 = .ok (.iload_n 1, 1) := by decide +kernel
theorem d120_21 : decode (mm_cb 120) 21 = .ok (.ireturn, 1) := by decide +kernel
theorem d121_0 : decode (mm_cb 121) 0 = .ok (.iconst 0, 1) := by decide +kernel
theorem d121_1 : decode (mm_cb 121) 1 = .ok (.istore 6, 2) := by decide +kernel
theorem d121_3 : decode (mm_cb 121) 3 = .ok (.lload 4, 2) := by decide +kernel
theorem d121_5 : decode (mm_cb 121) 5 = .ok (.lstore 7, 2) := by decide +kernel
theorem d121_7 : decode (mm_cb 121) 7 = .ok (.lload 7, 2) := by decide +kernel
theorem d121_9 : decode (mm_cb 121) 9 = .ok (.aload_n 0, 1) := by decide +kernel
theorem d121_10 : decode (mm_cb 121) 10 = .ok (.iload_n 2, 1) := by decide +kernel
theorem d121_11 : decode (mm_cb 121) 11 = .ok (.iload 6, 2) := by decide +kernel
theorem d121_13 : decode (mm_cb 121) 13 = .ok (.iload_n 3, 1) := by decide +kernel
theorem d121_14 : decode (mm_cb 121) 14 = .ok (.invokevirtual 83, 3) := by decide +kernel
theorem d121_17 : decode (mm_cb 121) 17 = .ok (.lcmp, 1) := by decide +kernel
theorem d121_18 : decode (mm_cb 121) 18 = .ok (.ifCond .lt 22, 3) := by decide +kernel
theorem d121_21 : decode (mm_cb 121) 21 = .ok (.lload 7, 2) := by decide +kernel
theorem d121_23 : decode (mm_cb 121) 23 = .ok (.aload_n 0, 1) := by decide +kernel
theorem d121_24 : decode (mm_cb 121) 24 = .ok (.iload_n 2, 1) := by decide +kernel
theorem d121_25 : decode (mm_cb 121) 25 = .ok (.iload 6, 2) := by decide +kernel
theorem d121_27 : decode (mm_cb 121) 27 = .ok (.iload_n 3, 1) := by decide +kernel
theorem d121_28 : decode (mm_cb 121) 28 = .ok (.invokevirtual 83, 3) := by decide +kernel
theorem d121_31 : decode (mm_cb 121) 31 = .ok (.lsub, 1) := by decide +kernel
theorem d121_32 : decode (mm_cb 121) 32 = .ok (.lstore 7, 2) := by decide +kernel
theorem d121_34 : decode (mm_cb 121) 34 = .ok (.iinc 6 1, 3) := by decide +kernel
theorem d121_37 : decode (mm_cb 121) 37 = .ok (.goto (-30), 3) := by decide +kernel
theorem d121_40 : decode (mm_cb 121) 40 = .ok (.aload_n 0, 1) := by decide +kernel
theorem d121_41 : decode (mm_cb 121) 41 = .ok (.getfield 26, 3) := by decide +kernel
theorem d121_44 : decode (mm_cb 121) 44 = .ok (.iload_n 1, 1) := by decide +kernel
theorem d121_45 : decode (mm_cb 121) 45 = .ok (.iload 6, 2) := by decide +kernel
theorem d121_47 : decode (mm_cb 121) 47 = .ok (.iastore, 1) := by decide +kernel
theorem d121_48 : decode (mm_cb 121) 48 = .ok (.aload_n 0, 1) := by decide +kernel
theorem d121_49 : decode (mm_cb 121) 49 = .ok (.getfield 29, 3) := by decide +kernel
theorem d121_52 : decode (mm_cb 121) 52 = .ok (.iload_n 1, 1) := by decide +kernel
theorem d121_53 : decode (mm_cb 121) 53 = .ok (.iload_n 2, 1) := by decide +kernel
theorem d121_54 : decode (mm_cb 121) 54 = .ok (.iastore, 1) := by decide +kernel
theorem d121_55 : decode (mm_cb 121) 55 = .ok (.aload_n 0, 1) := by decide +kernel
theorem d121_56 : decode (mm_cb 121) 56 = .ok (.getfield 13, 3) := by decide +kernel
theorem d121_59 : decode (mm_cb 121) 59 = .ok (.iconst 4, 1) := by decide +kernel
theorem d121_60 : decode (mm_cb 121) 60 = .ok (.iload_n 2, 1) := by decide +kernel
theorem d121_61 : decode (mm_cb 121) 61 = .ok (.imul, 1) := by decide +kernel
theorem d121_62 : decode (mm_cb 121) 62 = .ok (.iload 6, 2) := by decide +kernel
theorem d121_64 : decode (mm_cb 121) 64 = .ok (.iadd, 1) := by decide +kernel
theorem d121_65 : decode (mm_cb 121) 65 = .ok (.iaload, 1) := by decide +kernel
theorem d121_66 : decode (mm_cb 121) 66 = .ok (.iconst 1, 1) := by decide +kernel
theorem d121_67 : decode (mm_cb 121) 67 = .ok (.isub, 1) := by decide +kernel
theorem d121_68 : decode (mm_cb 121) 68 = .ok (.istore 9, 2) := by decide +kernel
theorem d121_70 : decode (mm_cb 121) 70 = .ok (.iload 9, 2) := by decide +kernel
theorem d121_72 : decode (mm_cb 121) 72 = .ok (.ifCond .lt 63, 3) := by decide +kernel
theorem d121_75 : decode (mm_cb 121) 75 = .ok (.aload_n 0, 1) := by decide +kernel
theorem d121_76 : decode (mm_cb 121) 76 = .ok (.getfield 19, 3) := by decide +kernel
theorem d121_79 : decode (mm_cb 121) 79 = .ok (.bipush 6, 2) := by decide +kernel
theorem d121_81 : decode (mm_cb 121) 81 = .ok (.aload_n 0, 1) := by decide +kernel
theorem d121_82 : decode (mm_cb 121) 82 = .ok (.iload_n 2, 1) := by decide +kernel
theorem d121_83 : decode (mm_cb 121) 83 = .ok (.iload 6, 2) := by decide +kernel
theorem d121_85 : decode (mm_cb 121) 85 = .ok (.iload 9, 2) := by decide +kernel
theorem d121_87 : decode (mm_cb 121) 87 = .ok (.invokevirtual 75, 3) := by decide +kernel
theorem d121_90 : decode (mm_cb 121) 90 = .ok (.imul, 1) := by decide +kernel
theorem d121_91 : decode (mm_cb 121) 91 = .ok (.iload_n 3, 1) := by decide +kernel
theorem d121_92 : decode (mm_cb 121) 92 = .ok (.iadd, 1) := by decide +kernel
theorem d121_93 : decode (mm_cb 121) 93 = .ok (.laload, 1) := by decide +kernel
theorem d121_94 : decode (mm_cb 121) 94 = .ok (.lstore 10, 2) := by decide +kernel
theorem d121_96 : decode (mm_cb 121) 96 = .ok (.aload_n 0, 1) := by decide +kernel
theorem d121_97 : decode (mm_cb 121) 97 = .ok (.iconst 4, 1) := by decide +kernel
theorem d121_98 : decode (mm_cb 121) 98 = .ok (.iload_n 1, 1) := by decide +kernel
theorem d121_99 : decode (mm_cb 121) 99 = .ok (.imul, 1) := by decide +kernel
theorem d121_100 : decode (mm_cb 121) 100 = .ok (.iload 9, 2) := by decide +kernel
theorem d121_102 : decode (mm_cb 121) 102 = .ok (.iadd, 1) := by decide +kernel
theorem d121_103 : decode (mm_cb 121) 103 = .ok (.iconst 1, 1) := by decide +kernel
theorem d121_104 : decode (mm_cb 121) 104 = .ok (.iadd, 1) := by decide +kernel
theorem d121_105 : decode (mm_cb 121) 105 = .ok (.aload_n 0, 1) := by decide +kernel
theorem d121_106 : decode (mm_cb 121) 106 = .ok (.iload_n 2, 1) := by decide +kernel
theorem d121_107 : decode (mm_cb 121) 107 = .ok (.iload 6, 2) := by decide +kernel
theorem d121_109 : decode (mm_cb 121) 109 = .ok (.iload 9, 2) := by decide +kernel
theorem d121_111 : decode (mm_cb 121) 111 = .ok (.invokevirtual 75, 3) := by decide +kernel
theorem d121_114 : decode (mm_cb 121) 114 = .ok (.lload 7, 2) := by decide +kernel
theorem d121_116 : decode (mm_cb 121) 116 = .ok (.lload 10, 2) := by decide +kernel
theorem d121_118 : decode (mm_cb 121) 118 = .ok (.lrem, 1) := by decide +kernel
theorem d121_119 : decode (mm_cb 121) 119 = .ok (.invokevirtual 117, 3) := by decide +kernel
theorem d121_122 : decode (mm_cb 121) 122 = .ok (.lload 7, 2) := by decide +kernel
theorem d121_124 : decode (mm_cb 121) 124 = .ok (.lload 10, 2) := by decide +kernel
theorem d121_126 : decode (mm_cb 121) 126 = .ok (.ldiv, 1) := by decide +kernel
theorem d121_127 : decode (mm_cb 121) 127 = .ok (.lstore 7, 2) := by decide +kernel
theorem d121_129 : decode (mm_cb 121) 129 = .ok (.iinc 9 (-1), 3) := by decide +kernel
theorem d121_132 : decode (mm_cb 121) 132 = .ok (.goto (-62), 3) := by decide +kernel
theorem d121_135 : decode (mm_cb 121) 135 = .ok (.return_, 1) := by decide +kernel
theorem d122_0 : decode (mm_cb 122) 0 = .ok (.aload_n 0, 1) := by decide +kernel
theorem d122_1 : decode (mm_cb 122) 1 = .ok (.iconst 0, 1) := by decide +kernel
theorem d122_2 : decode (mm_cb 122) 2 = .ok (.putfield 132, 3) := by decide +kernel
theorem d122_5 : decode (mm_cb 122) 5 = .ok (.aload_n 0, 1) := by decide +kernel
theorem d122_6 : decode (mm_cb 122) 6 = .ok (.iconst 0, 1) := by decide +kernel
theorem d122_7 : decode (mm_cb 122) 7 = .ok (.putfield 114, 3) := by decide +kernel
theorem d122_10 : decode (mm_cb 122) 10 = .ok (.aload_n 0, 1) := by decide +kernel
theorem d122_11 : decode (mm_cb 122) 11 = .ok (.iconst 0, 1) := by decide +kernel
theorem d122_12 : decode (mm_cb 122) 12 = .ok (.iconst 0, 1) := by decide +kernel
theorem d122_13 : decode (mm_cb 122) 13 = .ok (.lconst 0, 1) := by decide +kernel
theorem d122_14 : decode (mm_cb 122) 14 = .ok (.invokevirtual 117, 3) := by decide +kernel
theorem d122_17 : decode (mm_cb 122) 17 = .ok (.aload_n 0, 1) := by decide +kernel
theorem d122_18 : decode (mm_cb 122) 18 = .ok (.getfield 114, 3) := by decide +kernel
theorem d122_21 : decode (mm_cb 122) 21 = .ok (.ifCond .le 112, 3) := by decide +kernel
theorem d122_24 : decode (mm_cb 122) 24 = .ok (.aload_n 0, 1) := by decide +kernel
theorem d122_25 : decode (mm_cb 122) 25 = .ok (.dup, 1) := by decide +kernel
theorem d122_26 : decode (mm_cb 122) 26 = .ok (.getfield 114, 3) := by decide +kernel
theorem d122_29 : decode (mm_cb 122) 29 = .ok (.iconst 1, 1) := by decide +kernel
theorem d122_30 : decode (mm_cb 122) 30 = .ok (.isub, 1) := by decide +kernel
theorem d122_31 : decode (mm_cb 122) 31 = .ok (.putfield 114, 3) := by decide +kernel
theorem d122_34 : decode (mm_cb 122) 34 = .ok (.aload_n 0, 1) := by decide +kernel
theorem d122_35 : decode (mm_cb 122) 35 = .ok (.getfield 35, 3) := by decide +kernel
theorem d122_38 : decode (mm_cb 122) 38 = .ok (.aload_n 0, 1) := by decide +kernel
theorem d122_39 : decode (mm_cb 122) 39 = .ok (.getfield 114, 3) := by decide +kernel
theorem d122_42 : decode (mm_cb 122) 42 = .ok (.iaload, 1) := by decide +kernel
theorem d122_43 : decode (mm_cb 122) 43 = .ok (.istore_n 1, 1) := by decide +kernel
theorem d122_44 : decode (mm_cb 122) 44 = .ok (.aload_n 0, 1) := by decide +kernel
theorem d122_45 : decode (mm_cb 122) 45 = .ok (.getfield 32, 3) := by decide +kernel
theorem d122_48 : decode (mm_cb 122) 48 = .ok (.aload_n 0, 1) := by decide +kernel
theorem d122_49 : decode (mm_cb 122) 49 = .ok (.getfield 132, 3) := by decide +kernel
theorem d122_52 : decode (mm_cb 122) 52 = .ok (.aload_n 0, 1) := by decide +kernel
theorem d122_53 : decode (mm_cb 122) 53 = .ok (.getfield 26, 3) := by decide +kernel
theorem d122_56 : decode (mm_cb 122) 56 = .ok (.iload_n 1, 1) := by decide +kernel
theorem d122_57 : decode (mm_cb 122) 57 = .ok (.iaload, 1) := by decide +kernel
theorem d122_58 : decode (mm_cb 122) 58 = .ok (.iastore, 1) := by decide +kernel
theorem d122_59 : decode (mm_cb 122) 59 = .ok (.aload_n 0, 1) := by decide +kernel
theorem d122_60 : decode (mm_cb 122) 60 = .ok (.dup, 1) := by decide +kernel
theorem d122_61 : decode (mm_cb 122) 61 = .ok (.getfield 132, 3) := by decide +kernel
theorem d122_64 : decode (mm_cb 122) 64 = .ok (.iconst 1, 1) := by decide +kernel
theorem d122_65 : decode (mm_cb 122) 65 = .ok (.iadd, 1) := by decide +kernel
theorem d122_66 : decode (mm_cb 122) 66 = .ok (.putfield 132, 3) := by decide +kernel
theorem d122_69 : decode (mm_cb 122) 69 = .ok (.aload_n 0, 1) := by decide +kernel
theorem d122_70 : decode (mm_cb 122) 70 = .ok (.getfield 26, 3) := by decide +kernel
theorem d122_73 : decode (mm_cb 122) 73 = .ok (.iload_n 1, 1) := by decide +kernel
theorem d122_74 : decode (mm_cb 122) 74 = .ok (.iaload, 1) := by decide +kernel
theorem d122_75 : decode (mm_cb 122) 75 = .ok (.ifCond .ge 7, 3) := by decide +kernel
theorem d122_78 : decode (mm_cb 122) 78 = .ok (.iconst 0, 1) := by decide +kernel
theorem d122_79 : decode (mm_cb 122) 79 = .ok (.goto 23, 3) := by decide +kernel
theorem d122_82 : decode (mm_cb 122) 82 = .ok (.aload_n 0, 1) := by decide +kernel
theorem d122_83 : decode (mm_cb 122) 83 = .ok (.getfield 13, 3) := by decide +kernel
theorem d122_86 : decode (mm_cb 122) 86 = .ok (.iconst 4, 1) := by decide +kernel
theorem d122_87 : decode (mm_cb 122) 87 = .ok (.aload_n 0, 1) := by decide +kernel
theorem d122_88 : decode (mm_cb 122) 88 = .ok (.getfield 29, 3) := by decide +kernel
theorem d122_91 : decode (mm_cb 122) 91 = .ok (.iload_n 1, 1) := by decide +kernel
theorem d122_92 : decode (mm_cb 122) 92 = .ok (.iaload, 1) := by decide +kernel
theorem d122_93 : decode (mm_cb 122) 93 = .ok (.imul, 1) := by decide +kernel
theorem d122_94 : decode (mm_cb 122) 94 = .ok (.aload_n 0, 1) := by decide +kernel
theorem d122_95 : decode (mm_cb 122) 95 = .ok (.getfield 26, 3) := by decide +kernel
theorem d122_98 : decode (mm_cb 122) 98 = .ok (.iload_n 1, 1) := by decide +kernel
theorem d122_99 : decode (mm_cb 122) 99 = .ok (.iaload, 1) := by decide +kernel
theorem d122_100 : decode (mm_cb 122) 100 = .ok (.iadd, 1) := by decide +kernel
theorem d122_101 : decode (mm_cb 122) 101 = .ok (.iaload, 1) := by decide +kernel
theorem d122_102 : decode (mm_cb 122) 102 = .ok (.istore_n 2, 1) := by decide +kernel
theorem d122_103 : decode (mm_cb 122) 103 = .ok (.iload_n 2, 1) := by decide +kernel
theorem d122_104 : decode (mm_cb 122) 104 = .ok (.iconst 1, 1) := by decide +kernel
theorem d122_105 : decode (mm_cb 122) 105 = .ok (.isub, 1) := by decide +kernel
theorem d122_106 : decode (mm_cb 122) 106 = .ok (.istore_n 3, 1) := by decide +kernel
theorem d122_107 : decode (mm_cb 122) 107 = .ok (.iload_n 3, 1) := by decide +kernel
theorem d122_108 : decode (mm_cb 122) 108 = .ok (.ifCond .lt 22, 3) := by decide +kernel
theorem d122_111 : decode (mm_cb 122) 111 = .ok (.aload_n 0, 1) := by decide +kernel
theorem d122_112 : decode (mm_cb 122) 112 = .ok (.iconst 4, 1) := by decide +kernel
theorem d122_113 : decode (mm_cb 122) 113 = .ok (.iload_n 1, 1) := by decide +kernel
theorem d122_114 : decode (mm_cb 122) 114 = .ok (.imul, 1) := by decide +kernel
theorem d122_115 : decode (mm_cb 122) 115 = .ok (.iload_n 3, 1) := by decide +kernel
theorem d122_116 : decode (mm_cb 122) 116 = .ok (.iadd, 1) := by decide +kernel
theorem d122_117 : decode (mm_cb 122) 117 = .ok (.iconst 1, 1) := by decide +kernel
theorem d122_118 : decode (mm_cb 122) 118 = .ok (.iadd, 1) := by decide +kernel
theorem d122_119 : decode (mm_cb 122) 119 = .ok (.iconst 0, 1) := by decide +kernel
theorem d122_120 : decode (mm_cb 122) 120 = .ok (.lconst 0, 1) := by decide +kernel
theorem d122_121 : decode (mm_cb 122) 121 = .ok (.invokevirtual 117, 3) := by decide +kernel
theorem d122_124 : decode (mm_cb 122) 124 = .ok (.iinc 3 (-1), 3) := by decide +kernel
theorem d122_127 : decode (mm_cb 122) 127 = .ok (.goto (-20), 3) := by decide +kernel
theorem d122_130 : decode (mm_cb 122) 130 = .ok (.goto (-113), 3) := by decide +kernel
theorem d122_133 : decode (mm_cb 122) 133 = .ok (.return_, 1) := by decide +kernel
theorem d123_0 : decode (mm_cb 123) 0 = .ok (.aload_n 0, 1) := by decide +kernel
theorem d123_1 : decode (mm_cb 123) 1 = .ok (.iload_n 1, 1) := by decide +kernel
theorem d123_2 : decode (mm_cb 123) 2 = .ok (.iload_n 2, 1) := by decide +kernel
theorem d123_3 : decode (mm_cb 123) 3 = .ok (.invokestatic 108, 3) := by decide +kernel
theorem d123_6 : decode (mm_cb 123) 6 = .ok (.putfield 65, 3) := by decide +kernel
theorem d123_9 : decode (mm_cb 123) 9 = .ok (.aload_n 0, 1) := by decide +kernel
theorem d123_10 : decode (mm_cb 123) 10 = .ok (.getfield 65, 3) := by decide +kernel
theorem d123_13 : decode (mm_cb 123) 13 = .ok (.ifCond .le 5, 3) := by decide +kernel
theorem d123_16 : decode (mm_cb 123) 16 = .ok (.iconst 0, 1) := by decide +kernel
theorem d123_17 : decode (mm_cb 123) 17 = .ok (.ireturn, 1) := by decide +kernel
theorem d123_18 : decode (mm_cb 123) 18 = .ok (.aload_n 0, 1) := by decide +kernel
theorem d123_19 : decode (mm_cb 123) 19 = .ok (.invokevirtual 111, 3) := by decide +kernel
theorem d123_22 : decode (mm_cb 123) 22 = .ok (.aload_n 0, 1) := by decide +kernel
theorem d123_23 : decode (mm_cb 123) 23 = .ok (.lload_n 3, 1) := by decide +kernel
theorem d123_24 : decode (mm_cb 123) 24 = .ok (.lconst 0, 1) := by decide +kernel
theorem d123_25 : decode (mm_cb 123) 25 = .ok (.lcmp, 1) := by decide +kernel
theorem d123_26 : decode (mm_cb 123) 26 = .ok (.ifCond .lt 19, 3) := by decide +kernel
theorem d123_29 : decode (mm_cb 123) 29 = .ok (.lload_n 3, 1) := by decide +kernel
theorem d123_30 : decode (mm_cb 123) 30 = .ok (.aload_n 0, 1) := by decide +kernel
theorem d123_31 : decode (mm_cb 123) 31 = .ok (.getfield 23, 3) := by decide +kernel
theorem d123_34 : decode (mm_cb 123) 34 = .ok (.bipush 13, 2) := by decide +kernel
theorem d123_36 : decode (mm_cb 123) 36 = .ok (.iload_n 1, 1) := by decide +kernel
theorem d123_37 : decode (mm_cb 123) 37 = .ok (.imul, 1) := by decide +kernel
theorem d123_38 : decode (mm_cb 123) 38 = .ok (.iload_n 2, 1) := by decide +kernel
theorem d123_39 : decode (mm_cb 123) 39 = .ok (.iadd, 1) := by decide +kernel
theorem d123_40 : decode (mm_cb 123) 40 = .ok (.laload, 1) := by decide +kernel
theorem d123_41 : decode (mm_cb 123) 41 = .ok (.lcmp, 1) := by decide +kernel
theorem d123_42 : decode (mm_cb 123) 42 = .ok (.ifCond .lt 7, 3) := by decide +kernel
theorem d123_45 : decode (mm_cb 123) 45 = .ok (.iconst 3, 1) := by decide +kernel
theorem d123_46 : decode (mm_cb 123) 46 = .ok (.goto 4, 3) := by decide +kernel
theorem d123_49 : decode (mm_cb 123) 49 = .ok (.iconst 0, 1) := by decide +kernel
theorem d123_50 : decode (mm_cb 123) 50 = .ok (.putfield 65, 3) := by decide +kernel
theorem d123_53 : decode (mm_cb 123) 53 = .ok (.aload_n 0, 1) := by decide +kernel
theorem d123_54 : decode (mm_cb 123) 54 = .ok (.getfield 65, 3) := by decide +kernel
theorem d123_57 : decode (mm_cb 123) 57 = .ok (.ifCond .le 5, 3) := by decide +kernel
theorem d123_60 : decode (mm_cb 123) 60 = .ok (.iconst 0, 1) := by decide +kernel
theorem d123_61 : decode (mm_cb 123) 61 = .ok (.ireturn, 1) := by decide +kernel
theorem d123_62 : decode (mm_cb 123) 62 = .ok (.aload_n 0, 1) := by decide +kernel
theorem d123_63 : decode (mm_cb 123) 63 = .ok (.iconst 0, 1) := by decide +kernel
theorem d123_64 : decode (mm_cb 123) 64 = .ok (.putfield 132, 3) := by decide +kernel
theorem d123_67 : decode (mm_cb 123) 67 = .ok (.aload_n 0, 1) := by decide +kernel
theorem d123_68 : decode (mm_cb 123) 68 = .ok (.iconst 0, 1) := by decide +kernel
theorem d123_69 : decode (mm_cb 123) 69 = .ok (.putfield 114, 3) := by decide +kernel
theorem d123_72 : decode (mm_cb 123) 72 = .ok (.aload_n 0, 1) := by decide +kernel
theorem d123_73 : decode (mm_cb 123) 73 = .ok (.iload_n 1, 1) := by decide +kernel
theorem d123_74 : decode (mm_cb 123) 74 = .ok (.iload_n 2, 1) := by decide +kernel
theorem d123_75 : decode (mm_cb 123) 75 = .ok (.lload_n 3, 1) := by decide +kernel
theorem d123_76 : decode (mm_cb 123) 76 = .ok (.invokevirtual 117, 3) := by decide +kernel
theorem d123_79 : decode (mm_cb 123) 79 = .ok (.aload_n 0, 1) := by decide +kernel
theorem d123_80 : decode (mm_cb 123) 80 = .ok (.getfield 114, 3) := by decide +kernel
theorem d123_83 : decode (mm_cb 123) 83 = .ok (.ifCond .le 47, 3) := by decide +kernel
theorem d123_86 : decode (mm_cb 123) 86 = .ok (.aload_n 0, 1) := by decide +kernel
theorem d123_87 : decode (mm_cb 123) 87 = .ok (.dup, 1) := by decide +kernel
theorem d123_88 : decode (mm_cb 123) 88 = .ok (.getfield 114, 3) := by decide +kernel
theorem d123_91 : decode (mm_cb 123) 91 = .ok (.iconst 1, 1) := by decide +kernel
theorem d123_92 : decode (mm_cb 123) 92 = .ok (.isub, 1) := by decide +kernel
theorem d123_93 : decode (mm_cb 123) 93 = .ok (.putfield 114, 3) := by decide +kernel
theorem d123_96 : decode (mm_cb 123) 96 = .ok (.aload_n 0, 1) := by decide +kernel
theorem d123_97 : decode (mm_cb 123) 97 = .ok (.aload_n 0, 1) := by decide +kernel
theorem d123_98 : decode (mm_cb 123) 98 = .ok (.getfield 35, 3) := by decide +kernel
theorem d123_101 : decode (mm_cb 123) 101 = .ok (.aload_n 0, 1) := by decide +kernel
theorem d123_102 : decode (mm_cb 123) 102 = .ok (.getfield 114, 3) := by decide +kernel
theorem d123_105 : decode (mm_cb 123) 105 = .ok (.iaload, 1) := by decide +kernel
theorem d123_106 : decode (mm_cb 123) 106 = .ok (.aload_n 0, 1) := by decide +kernel
theorem d123_107 : decode (mm_cb 123) 107 = .ok (.getfield 38, 3) := by decide +kernel
theorem d123_110 : decode (mm_cb 123) 110 = .ok (.aload_n 0, 1) := by decide +kernel
theorem d123_111 : decode (mm_cb 123) 111 = .ok (.getfield 114, 3) := by decide +kernel
theorem d123_114 : decode (mm_cb 123) 114 = .ok (.iaload, 1) := by decide +kernel
theorem d123_115 : decode (mm_cb 123) 115 = .ok (.aload_n 0, 1) := by decide +kernel
theorem d123_116 : decode (mm_cb 123) 116 = .ok (.getfield 41, 3) := by decide +kernel
theorem d123_119 : decode (mm_cb 123) 119 = .ok (.aload_n 0, 1) := by decide +kernel
theorem d123_120 : decode (mm_cb 123) 120 = .ok (.getfield 114, 3) := by decide +kernel
theorem d123_123 : decode (mm_cb 123) 123 = .ok (.laload, 1) := by decide +kernel
theorem d123_124 : decode (mm_cb 123) 124 = .ok (.invokevirtual 141, 3) := by decide +kernel
theorem d123_127 : decode (mm_cb 123) 127 = .ok (.goto (-48), 3) := by decide +kernel
theorem d123_130 : decode (mm_cb 123) 130 = .ok (.aload_n 0, 1) := by decide +kernel
theorem d123_131 : decode (mm_cb 123) 131 = .ok (.getfield 132, 3) := by decide +kernel
theorem d123_134 : decode (mm_cb 123) 134 = .ok (.ireturn, 1) := by decide +kernel
theorem d124_0 : decode (mm_cb 124) 0 = .ok (.iconst 0, 1) := by decide +kernel
theorem d124_1 : decode (mm_cb 124) 1 = .ok (.istore 5, 2) := by decide +kernel
theorem d124_3 : decode (mm_cb 124) 3 = .ok (.lload_n 3, 1) := by decide +kernel
theorem d124_4 : decode (mm_cb 124) 4 = .ok (.lstore 6, 2) := by decide +kernel
theorem d124_6 : decode (mm_cb 124) 6 = .ok (.lload 6, 2) := by decide +kernel
theorem d124_8 : decode (mm_cb 124) 8 = .ok (.aload_n 0, 1) := by decide +kernel
theorem d124_9 : decode (mm_cb 124) 9 = .ok (.iload_n 1, 1) := by decide +kernel
theorem d124_10 : decode (mm_cb 124) 10 = .ok (.iload 5, 2) := by decide +kernel
theorem d124_12 : decode (mm_cb 124) 12 = .ok (.iload_n 2, 1) := by decide +kernel
theorem d124_13 : decode (mm_cb 124) 13 = .ok (.invokevirtual 98, 3) := by decide +kernel
theorem d124_16 : decode (mm_cb 124) 16 = .ok (.lcmp, 1) := by decide +kernel
theorem d124_17 : decode (mm_cb 124) 17 = .ok (.ifCond .lt 22, 3) := by decide +kernel
theorem d124_20 : decode (mm_cb 124) 20 = .ok (.lload 6, 2) := by decide +kernel
theorem d124_22 : decode (mm_cb 124) 22 = .ok (.aload_n 0, 1) := by decide +kernel
theorem d124_23 : decode (mm_cb 124) 23 = .ok (.iload_n 1, 1) := by decide +kernel
theorem d124_24 : decode (mm_cb 124) 24 = .ok (.iload 5, 2) := by decide +kernel
theorem d124_26 : decode (mm_cb 124) 26 = .ok (.iload_n 2, 1) := by decide +kernel
theorem d124_27 : decode (mm_cb 124) 27 = .ok (.invokevirtual 98, 3) := by decide +kernel
theorem d124_30 : decode (mm_cb 124) 30 = .ok (.lsub, 1) := by decide +kernel
theorem d124_31 : decode (mm_cb 124) 31 = .ok (.lstore 6, 2) := by decide +kernel
theorem d124_33 : decode (mm_cb 124) 33 = .ok (.iinc 5 1, 3) := by decide +kernel
theorem d124_36 : decode (mm_cb 124) 36 = .ok (.goto (-30), 3) := by decide +kernel
theorem d124_39 : decode (mm_cb 124) 39 = .ok (.aload_n 0, 1) := by decide +kernel
theorem d124_40 : decode (mm_cb 124) 40 = .ok (.getfield 32, 3) := by decide +kernel
theorem d124_43 : decode (mm_cb 124) 43 = .ok (.aload_n 0, 1) := by decide +kernel
theorem d124_44 : decode (mm_cb 124) 44 = .ok (.getfield 132, 3) := by decide +kernel
theorem d124_47 : decode (mm_cb 124) 47 = .ok (.iload 5, 2) := by decide +kernel
theorem d124_49 : decode (mm_cb 124) 49 = .ok (.iastore, 1) := by decide +kernel
theorem d124_50 : decode (mm_cb 124) 50 = .ok (.aload_n 0, 1) := by decide +kernel
theorem d124_51 : decode (mm_cb 124) 51 = .ok (.dup, 1) := by decide +kernel
theorem d124_52 : decode (mm_cb 124) 52 = .ok (.getfield 132, 3) := by decide +kernel
theorem d124_55 : decode (mm_cb 124) 55 = .ok (.iconst 1, 1) := by decide +kernel
theorem d124_56 : decode (mm_cb 124) 56 = .ok (.iadd, 1) := by decide +kernel
theorem d124_57 : decode (mm_cb 124) 57 = .ok (.putfield 132, 3) := by decide +kernel
theorem d124_60 : decode (mm_cb 124) 60 = .ok (.iconst 0, 1) := by decide +kernel
theorem d124_61 : decode (mm_cb 124) 61 = .ok (.istore 8, 2) := by decide +kernel
theorem d124_63 : decode (mm_cb 124) 63 = .ok (.iconst 0, 1) := by decide +kernel
theorem d124_64 : decode (mm_cb 124) 64 = .ok (.istore 9, 2) := by decide +kernel
theorem d124_66 : decode (mm_cb 124) 66 = .ok (.lload 6, 2) := by decide +kernel
theorem d124_68 : decode (mm_cb 124) 68 = .ok (.aload_n 0, 1) := by decide +kernel
theorem d124_69 : decode (mm_cb 124) 69 = .ok (.iload_n 1, 1) := by decide +kernel
theorem d124_70 : decode (mm_cb 124) 70 = .ok (.iload 5, 2) := by decide +kernel
theorem d124_72 : decode (mm_cb 124) 72 = .ok (.iload 8, 2) := by decide +kernel
theorem d124_74 : decode (mm_cb 124) 74 = .ok (.iload 9, 2) := by decide +kernel
theorem d124_76 : decode (mm_cb 124) 76 = .ok (.iload_n 2, 1) := by decide +kernel
theorem d124_77 : decode (mm_cb 124) 77 = .ok (.iconst 1, 1) := by decide +kernel
theorem d124_78 : decode (mm_cb 124) 78 = .ok (.isub, 1) := by decide +kernel
theorem d124_79 : decode (mm_cb 124) 79 = .ok (.iload 8, 2) := by decide +kernel
theorem d124_81 : decode (mm_cb 124) 81 = .ok (.isub, 1) := by decide +kernel
theorem d124_82 : decode (mm_cb 124) 82 = .ok (.iload 9, 2) := by decide +kernel
theorem d124_84 : decode (mm_cb 124) 84 = .ok (.isub, 1) := by decide +kernel
theorem d124_85 : decode (mm_cb 124) 85 = .ok (.invokevirtual 94, 3) := by decide +kernel
theorem d124_88 : decode (mm_cb 124) 88 = .ok (.lcmp, 1) := by decide +kernel
theorem d124_89 : decode (mm_cb 124) 89 = .ok (.ifCond .lt 49, 3) := by decide +kernel
theorem d124_92 : decode (mm_cb 124) 92 = .ok (.lload 6, 2) := by decide +kernel
theorem d124_94 : decode (mm_cb 124) 94 = .ok (.aload_n 0, 1) := by decide +kernel
theorem d124_95 : decode (mm_cb 124) 95 = .ok (.iload_n 1, 1) := by decide +kernel
theorem d124_96 : decode (mm_cb 124) 96 = .ok (.iload 5, 2) := by decide +kernel
theorem d124_98 : decode (mm_cb 124) 98 = .ok (.iload 8, 2) := by decide +kernel
theorem d124_100 : decode (mm_cb 124) 100 = .ok (.iload 9, 2) := by decide +kernel
theorem d124_102 : decode (mm_cb 124) 102 = .ok (.iload_n 2, 1) := by decide +kernel
theorem d124_103 : decode (mm_cb 124) 103 = .ok (.iconst 1, 1) := by decide +kernel
theorem d124_104 : decode (mm_cb 124) 104 = .ok (.isub, 1) := by decide +kernel
theorem d124_105 : decode (mm_cb 124) 105 = .ok (.iload 8, 2) := by decide +kernel
theorem d124_107 : decode (mm_cb 124) 107 = .ok (.isub, 1) := by decide +kernel
theorem d124_108 : decode (mm_cb 124) 108 = .ok (.iload 9, 2) := by decide +kernel
theorem d124_110 : decode (mm_cb 124) 110 = .ok (.isub, 1) := by decide +kernel
theorem d124_111 : decode (mm_cb 124) 111 = .ok (.invokevirtual 94, 3) := by decide +kernel
theorem d124_114 : decode (mm_cb 124) 114 = .ok (.lsub, 1) := by decide +kernel
theorem d124_115 : decode (mm_cb 124) 115 = .ok (.lstore 6, 2) := by decide +kernel
theorem d124_117 : decode (mm_cb 124) 117 = .ok (.iinc 9 1, 3) := by decide +kernel
theorem d124_120 : decode (mm_cb 124) 120 = .ok (.iload 8, 2) := by decide +kernel
theorem d124_122 : decode (mm_cb 124) 122 = .ok (.iload 9, 2) := by decide +kernel
theorem d124_124 : decode (mm_cb 124) 124 = .ok (.iadd, 1) := by decide +kernel
theorem d124_125 : decode (mm_cb 124) 125 = .ok (.iload_n 2, 1) := by decide +kernel
theorem d124_126 : decode (mm_cb 124) 126 = .ok (.if_icmp .ne (-60), 3) := by decide +kernel
theorem d124_129 : decode (mm_cb 124) 129 = .ok (.iinc 8 1, 3) := by decide +kernel
theorem d124_132 : decode (mm_cb 124) 132 = .ok (.iconst 0, 1) := by decide +kernel
theorem d124_133 : decode (mm_cb 124) 133 = .ok (.istore 9, 2) := by decide +kernel
theorem d124_135 : decode (mm_cb 124) 135 = .ok (.goto (-69), 3) := by decide +kernel
theorem d124_138 : decode (mm_cb 124) 138 = .ok (.aload_n 0, 1) := by decide +kernel
theorem d124_139 : decode (mm_cb 124) 139 = .ok (.getfield 13, 3) := by decide +kernel
theorem d124_142 : decode (mm_cb 124) 142 = .ok (.iconst 4, 1) := by decide +kernel
theorem d124_143 : decode (mm_cb 124) 143 = .ok (.iload_n 1, 1) := by decide +kernel
theorem d124_144 : decode (mm_cb 124) 144 = .ok (.imul, 1) := by decide +kernel
theorem d124_145 : decode (mm_cb 124) 145 = .ok (.iload 5, 2) := by decide +kernel
theorem d124_147 : decode (mm_cb 124) 147 = .ok (.iadd, 1) := by decide +kernel
theorem d124_148 : decode (mm_cb 124) 148 = .ok (.iaload, 1) := by decide +kernel
theorem d124_149 : decode (mm_cb 124) 149 = .ok (.iconst 1, 1) := by decide +kernel
theorem d124_150 : decode (mm_cb 124) 150 = .ok (.isub, 1) := by decide +kernel
theorem d124_151 : decode (mm_cb 124) 151 = .ok (.istore 10, 2) := by decide +kernel
theorem d124_153 : decode (mm_cb 124) 153 = .ok (.iload 10, 2) := by decide +kernel
theorem d124_155 : decode (mm_cb 124) 155 = .ok (.ifCond .lt 85, 3) := by decide +kernel
theorem d124_158 : decode (mm_cb 124) 158 = .ok (.iload 10, 2) := by decide +kernel
theorem d124_160 : decode (mm_cb 124) 160 = .ok (.ifCond .ne 8, 3) := by decide +kernel
theorem d124_163 : decode (mm_cb 124) 163 = .ok (.iload 8, 2) := by decide +kernel
theorem d124_165 : decode (mm_cb 124) 165 = .ok (.goto 23, 3) := by decide +kernel
theorem d124_168 : decode (mm_cb 124) 168 = .ok (.iload 10, 2) := by decide +kernel
theorem d124_170 : decode (mm_cb 124) 170 = .ok (.iconst 1, 1) := by decide +kernel
theorem d124_171 : decode (mm_cb 124) 171 = .ok (.if_icmp .ne 8, 3) := by decide +kernel
theorem d124_174 : decode (mm_cb 124) 174 = .ok (.iload 9, 2) := by decide +kernel
theorem d124_176 : decode (mm_cb 124) 176 = .ok (.goto 12, 3) := by decide +kernel
theorem d124_179 : decode (mm_cb 124) 179 = .ok (.iload_n 2, 1) := by decide +kernel
theorem d124_180 : decode (mm_cb 124) 180 = .ok (.iconst 1, 1) := by decide +kernel
theorem d124_181 : decode (mm_cb 124) 181 = .ok (.isub, 1) := by decide +kernel
theorem d124_182 : decode (mm_cb 124) 182 = .ok (.iload 8, 2) := by decide +kernel
theorem d124_184 : decode (mm_cb 124) 184 = .ok (.isub, 1) := by decide +kernel
theorem d124_185 : decode (mm_cb 124) 185 = .ok (.iload 9, 2) := by decide +kernel
theorem d124_187 : decode (mm_cb 124) 187 = .ok (.isub, 1) := by decide +kernel
theorem d124_188 : decode (mm_cb 124) 188 = .ok (.istore 11, 2) := by decide +kernel
theorem d124_190 : decode (mm_cb 124) 190 = .ok (.aload_n 0, 1) := by decide +kernel
theorem d124_191 : decode (mm_cb 124) 191 = .ok (.aload_n 0, 1) := by decide +kernel
theorem d124_192 : decode (mm_cb 124) 192 = .ok (.iload_n 1, 1) := by decide +kernel
theorem d124_193 : decode (mm_cb 124) 193 = .ok (.iload 5, 2) := by decide +kernel
theorem d124_195 : decode (mm_cb 124) 195 = .ok (.iload 10, 2) := by decide +kernel
theorem d124_197 : decode (mm_cb 124) 197 = .ok (.invokevirtual 75, 3) := by decide +kernel
theorem d124_200 : decode (mm_cb 124) 200 = .ok (.iload 11, 2) := by decide +kernel
theorem d124_202 : decode (mm_cb 124) 202 = .ok (.invokevirtual 90, 3) := by decide +kernel
theorem d124_205 : decode (mm_cb 124) 205 = .ok (.lstore 12, 2) := by decide +kernel
theorem d124_207 : decode (mm_cb 124) 207 = .ok (.aload_n 0, 1) := by decide +kernel
theorem d124_208 : decode (mm_cb 124) 208 = .ok (.aload_n 0, 1) := by decide +kernel
theorem d124_209 : decode (mm_cb 124) 209 = .ok (.iload_n 1, 1) := by decide +kernel
theorem d124_210 : decode (mm_cb 124) 210 = .ok (.iload 5, 2) := by decide +kernel
theorem d124_212 : decode (mm_cb 124) 212 = .ok (.iload 10, 2) := by decide +kernel
theorem d124_214 : decode (mm_cb 124) 214 = .ok (.invokevirtual 75, 3) := by decide +kernel
theorem d124_217 : decode (mm_cb 124) 217 = .ok (.iload 11, 2) := by decide +kernel
theorem d124_219 : decode (mm_cb 124) 219 = .ok (.lload 6, 2) := by decide +kernel
theorem d124_221 : decode (mm_cb 124) 221 = .ok (.lload 12, 2) := by decide +kernel
theorem d124_223 : decode (mm_cb 124) 223 = .ok (.lrem, 1) := by decide +kernel
theorem d124_224 : decode (mm_cb 124) 224 = .ok (.invokevirtual 117, 3) := by decide +kernel
theorem d124_227 : decode (mm_cb 124) 227 = .ok (.lload 6, 2) := by decide +kernel
theorem d124_229 : decode (mm_cb 124) 229 = .ok (.lload 12, 2) := by decide +kernel
theorem d124_231 : decode (mm_cb 124) 231 = .ok (.ldiv, 1) := by decide +kernel
theorem d124_232 : decode (mm_cb 124) 232 = .ok (.lstore 6, 2) := by decide +kernel
theorem d124_234 : decode (mm_cb 124) 234 = .ok (.iinc 10 (-1), 3) := by decide +kernel
theorem d124_237 : decode (mm_cb 124) 237 = .ok (.goto (-84), 3) := by decide +kernel
theorem d124_240 : decode (mm_cb 124) 240 = .ok (.return_, 1) := by decide +kernel
theorem d125_0 : decode (mm_cb 125) 0 = .ok (.aload_n 0, 1) := by decide +kernel
theorem d125_1 : decode (mm_cb 125) 1 = .ok (.iconst 0, 1) := by decide +kernel
theorem d125_2 : decode (mm_cb 125) 2 = .ok (.putfield 65, 3) := by decide +kernel
theorem d125_5 : decode (mm_cb 125) 5 = .ok (.iload_n 1, 1) := by decide +kernel
theorem d125_6 : decode (mm_cb 125) 6 = .ok (.ifCond .lt 20, 3) := by decide +kernel
theorem d125_9 : decode (mm_cb 125) 9 = .ok (.iload_n 1, 1) := by decide +kernel
theorem d125_10 : decode (mm_cb 125) 10 = .ok (.aload_n 0, 1) := by decide +kernel
theorem d125_11 : decode (mm_cb 125) 11 = .ok (.getfield 132, 3) := by decide +kernel
theorem d125_14 : decode (mm_cb 125) 14 = .ok (.if_icmp .ge 12, 3) := by decide +kernel
theorem d125_17 : decode (mm_cb 125) 17 = .ok (.aload_n 0, 1) := by decide +kernel
theorem d125_18 : decode (mm_cb 125) 18 = .ok (.getfield 32, 3) := by decide +kernel
theorem d125_21 : decode (mm_cb 125) 21 = .ok (.iload_n 1, 1) := by decide +kernel
theorem d125_22 : decode (mm_cb 125) 22 = .ok (.iaload, 1) := by decide +kernel
theorem d125_23 : decode (mm_cb 125) 23 = .ok (.goto 4, 3) := by decide +kernel
theorem d125_26 : decode (mm_cb 125) 26 = .ok (.iconst (-1), 1) := by decide +kernel
theorem d125_27 : decode (mm_cb 125) 27 = .ok (.ireturn, 1) := by decide +kernel
theorem d126_0 : decode (mm_cb 126) 0 = .ok (.aload_n 0, 1) := by decide +kernel
theorem d126_1 : decode (mm_cb 126) 1 = .ok (.iload_n 1, 1) := by decide +kernel
theorem d126_2 : decode (mm_cb 126) 2 = .ok (.invokestatic 150, 3) := by decide +kernel
theorem d126_5 : decode (mm_cb 126) 5 = .ok (.ifCond .eq 12, 3) := by decide +kernel
theorem d126_8 : decode (mm_cb 126) 8 = .ok (.iload_n 2, 1) := by decide +kernel
theorem d126_9 : decode (mm_cb 126) 9 = .ok (.ifCond .lt 8, 3) := by decide +kernel
theorem d126_12 : decode (mm_cb 126) 12 = .ok (.iload_n 2, 1) := by decide +kernel
theorem d126_13 : decode (mm_cb 126) 13 = .ok (.iconst 3, 1) := by decide +kernel
theorem d126_14 : decode (mm_cb 126) 14 = .ok (.if_icmp .le 7, 3) := by decide +kernel
theorem d126_17 : decode (mm_cb 126) 17 = .ok (.iconst 1, 1) := by decide +kernel
theorem d126_18 : decode (mm_cb 126) 18 = .ok (.goto 17, 3) := by decide +kernel
theorem d126_21 : decode (mm_cb 126) 21 = .ok (.aload_n 0, 1) := by decide +kernel
theorem d126_22 : decode (mm_cb 126) 22 = .ok (.getfield 144, 3) := by decide +kernel
theorem d126_25 : decode (mm_cb 126) 25 = .ok (.bipush 20, 2) := by decide +kernel
theorem d126_27 : decode (mm_cb 126) 27 = .ok (.if_icmp .ne 7, 3) := by decide +kernel
theorem d126_30 : decode (mm_cb 126) 30 = .ok (.iconst 2, 1) := by decide +kernel
theorem d126_31 : decode (mm_cb 126) 31 = .ok (.goto 4, 3) := by decide +kernel
theorem d126_34 : decode (mm_cb 126) 34 = .ok (.iconst 0, 1) := by decide +kernel
theorem d126_35 : decode (mm_cb 126) 35 = .ok (.putfield 65, 3) := by decide +kernel
theorem d126_38 : decode (mm_cb 126) 38 = .ok (.aload_n 0, 1) := by decide +kernel
theorem d126_39 : decode (mm_cb 126) 39 = .ok (.getfield 65, 3) := by decide +kernel
theorem d126_42 : decode (mm_cb 126) 42 = .ok (.ifCond .le 7, 3) := by decide +kernel
theorem d126_45 : decode (mm_cb 126) 45 = .ok (.iconst 0, 1) := by decide +kernel
theorem d126_46 : decode (mm_cb 126) 46 = .ok (.goto 10, 3) := by decide +kernel
theorem d126_49 : decode (mm_cb 126) 49 = .ok (.aload_n 0, 1) := by decide +kernel
theorem d126_50 : decode (mm_cb 126) 50 = .ok (.iconst 0, 1) := by decide +kernel
theorem d126_51 : decode (mm_cb 126) 51 = .ok (.iload_n 1, 1) := by decide +kernel
theorem d126_52 : decode (mm_cb 126) 52 = .ok (.iload_n 2, 1) := by decide +kernel
theorem d126_53 : decode (mm_cb 126) 53 = .ok (.invokevirtual 153, 3) := by decide +kernel
theorem d126_56 : decode (mm_cb 126) 56 = .ok (.ireturn, 1) := by decide +kernel
theorem d127_0 : decode (mm_cb 127) 0 = .ok (.iload_n 0, 1) := by decide +kernel
theorem d127_1 : decode (mm_cb 127) 1 = .ok (.ifCond .lt 15, 3) := by decide +kernel
theorem d127_4 : decode (mm_cb 127) 4 = .ok (.iload_n 0, 1) := by decide +kernel
theorem d127_5 : decode (mm_cb 127) 5 = .ok (.invokestatic 124, 3) := by decide +kernel
theorem d127_8 : decode (mm_cb 127) 8 = .ok (.iconst 4, 1) := by decide +kernel
theorem d127_9 : decode (mm_cb 127) 9 = .ok (.if_icmp .gt 7, 3) := by decide +kernel
theorem d127_12 : decode (mm_cb 127) 12 = .ok (.iconst 1, 1) := by decide +kernel
theorem d127_13 : decode (mm_cb 127) 13 = .ok (.goto 4, 3) := by decide +kernel
theorem d127_16 : decode (mm_cb 127) 16 = .ok (.iconst 0, 1) := by decide +kernel
theorem d127_17 : decode (mm_cb 127) 17 = .ok (.istore_n 1, 1) := by decide +kernel
theorem d127_18 : decode (mm_cb 127) 18 = .ok (.iload_n 0, 1) := by decide +kernel
theorem d127_19 : decode (mm_cb 127) 19 = .ok (.istore_n 2, 1) := by decide +kernel
theorem d127_20 : decode (mm_cb 127) 20 = .ok (.iload_n 2, 1) := by decide +kernel
theorem d127_21 : decode (mm_cb 127) 21 = .ok (.ifCond .le 31, 3) := by decide +kernel
theorem d127_24 : decode (mm_cb 127) 24 = .ok (.iload_n 1, 1) := by decide +kernel
theorem d127_25 : decode (mm_cb 127) 25 = .ok (.ifCond .eq 16, 3) := by decide +kernel
theorem d127_28 : decode (mm_cb 127) 28 = .ok (.iload_n 2, 1) := by decide +kernel
theorem d127_29 : decode (mm_cb 127) 29 = .ok (.iconst 1, 1) := by decide +kernel
theorem d127_30 : decode (mm_cb 127) 30 = .ok (.isub, 1) := by decide +kernel
theorem d127_31 : decode (mm_cb 127) 31 = .ok (.iconst 4, 1) := by decide +kernel
theorem d127_32 : decode (mm_cb 127) 32 = .ok (.irem, 1) := by decide +kernel
theorem d127_33 : decode (mm_cb 127) 33 = .ok (.iconst 3, 1) := by decide +kernel
theorem d127_34 : decode (mm_cb 127) 34 = .ok (.if_icmp .ge 7, 3) := by decide +kernel
theorem d127_37 : decode (mm_cb 127) 37 = .ok (.iconst 1, 1) := by decide +kernel
theorem d127_38 : decode (mm_cb 127) 38 = .ok (.goto 4, 3) := by decide +kernel
theorem d127_41 : decode (mm_cb 127) 41 = .ok (.iconst 0, 1) := by decide +kernel
theorem d127_42 : decode (mm_cb 127) 42 = .ok (.istore_n 1, 1) := by decide +kernel
theorem d127_43 : decode (mm_cb 127) 43 = .ok (.iload_n 2, 1) := by decide +kernel
theorem d127_44 : decode (mm_cb 127) 44 = .ok (.iconst 1, 1) := by decide +kernel
theorem d127_45 : decode (mm_cb 127) 45 = .ok (.isub, 1) := by decide +kernel
theorem d127_46 : decode (mm_cb 127) 46 = .ok (.iconst 4, 1) := by decide +kernel
theorem d127_47 : decode (mm_cb 127) 47 = .ok (.idiv, 1) := by decide +kernel
theorem d127_48 : decode (mm_cb 127) 48 = .ok (.istore_n 2, 1) := by decide +kernel
theorem d127_49 : decode (mm_cb 127) 49 = .ok (.goto (-29), 3) := by decide +kernel
theorem d127_52 : decode (mm_cb 127) 52 = .ok (.iload_n 1, 1) := by decide +kernel
theorem d127_53 : decode (mm_cb 127) 53 = .ok (.ireturn, 1) := by decide +kernel
theorem d128_0 : decode (mm_cb 128) 0 = .ok (.aload_n 0, 1) := by decide +kernel
theorem d128_1 : decode (mm_cb 128) 1 = .ok (.getfield 44, 3) := by decide +kernel
theorem d128_4 : decode (mm_cb 128) 4 = .ok (.aload_n 0, 1) := by decide +kernel
theorem d128_5 : decode (mm_cb 128) 5 = .ok (.getfield 144, 3) := by decide +kernel
theorem d128_8 : decode (mm_cb 128) 8 = .ok (.iload_n 1, 1) := by decide +kernel
theorem d128_9 : decode (mm_cb 128) 9 = .ok (.iastore, 1) := by decide +kernel
theorem d128_10 : decode (mm_cb 128) 10 = .ok (.aload_n 0, 1) := by decide +kernel
theorem d128_11 : decode (mm_cb 128) 11 = .ok (.getfield 47, 3) := by decide +kernel
theorem d128_14 : decode (mm_cb 128) 14 = .ok (.aload_n 0, 1) := by decide +kernel
theorem d128_15 : decode (mm_cb 128) 15 = .ok (.getfield 144, 3) := by decide +kernel
theorem d128_18 : decode (mm_cb 128) 18 = .ok (.iload_n 2, 1) := by decide +kernel
theorem d128_19 : decode (mm_cb 128) 19 = .ok (.iastore, 1) := by decide +kernel
theorem d128_20 : decode (mm_cb 128) 20 = .ok (.aload_n 0, 1) := by decide +kernel
theorem d128_21 : decode (mm_cb 128) 21 = .ok (.getfield 50, 3) := by decide +kernel
theorem d128_24 : decode (mm_cb 128) 24 = .ok (.aload_n 0, 1) := by decide +kernel
theorem d128_25 : decode (mm_cb 128) 25 = .ok (.getfield 144, 3) := by decide +kernel
theorem d128_28 : decode (mm_cb 128) 28 = .ok (.iload_n 3, 1) := by decide +kernel
theorem d128_29 : decode (mm_cb 128) 29 = .ok (.iastore, 1) := by decide +kernel
theorem d128_30 : decode (mm_cb 128) 30 = .ok (.aload_n 0, 1) := by decide +kernel
theorem d128_31 : decode (mm_cb 128) 31 = .ok (.getfield 56, 3) := by decide +kernel
theorem d128_34 : decode (mm_cb 128) 34 = .ok (.aload_n 0, 1) := by decide +kernel
theorem d128_35 : decode (mm_cb 128) 35 = .ok (.getfield 147, 3) := by decide +kernel
theorem d128_38 : decode (mm_cb 128) 38 = .ok (.aload_n 0, 1) := by decide +kernel
theorem d128_39 : decode (mm_cb 128) 39 = .ok (.getfield 144, 3) := by decide +kernel
theorem d128_42 : decode (mm_cb 128) 42 = .ok (.iastore, 1) := by decide +kernel
theorem d128_43 : decode (mm_cb 128) 43 = .ok (.aload_n 0, 1) := by decide +kernel
theorem d128_44 : decode (mm_cb 128) 44 = .ok (.dup, 1) := by decide +kernel
theorem d128_45 : decode (mm_cb 128) 45 = .ok (.getfield 144, 3) := by decide +kernel
theorem d128_48 : decode (mm_cb 128) 48 = .ok (.iconst 1, 1) := by decide +kernel
theorem d128_49 : decode (mm_cb 128) 49 = .ok (.iadd, 1) := by decide +kernel
theorem d128_50 : decode (mm_cb 128) 50 = .ok (.putfield 144, 3) := by decide +kernel
theorem d128_53 : decode (mm_cb 128) 53 = .ok (.aload_n 0, 1) := by decide +kernel
theorem d128_54 : decode (mm_cb 128) 54 = .ok (.dup, 1) := by decide +kernel
theorem d128_55 : decode (mm_cb 128) 55 = .ok (.getfield 147, 3) := by decide +kernel
theorem d128_58 : decode (mm_cb 128) 58 = .ok (.iconst 1, 1) := by decide +kernel
theorem d128_59 : decode (mm_cb 128) 59 = .ok (.iadd, 1) := by decide +kernel
theorem d128_60 : decode (mm_cb 128) 60 = .ok (.putfield 147, 3) := by decide +kernel
theorem d128_63 : decode (mm_cb 128) 63 = .ok (.aload_n 0, 1) := by decide +kernel
theorem d128_64 : decode (mm_cb 128) 64 = .ok (.getfield 147, 3) := by decide +kernel
theorem d128_67 : decode (mm_cb 128) 67 = .ok (.ireturn, 1) := by decide +kernel
theorem d129_0 : decode (mm_cb 129) 0 = .ok (.aload_n 0, 1) := by decide +kernel
theorem d129_1 : decode (mm_cb 129) 1 = .ok (.iload_n 1, 1) := by decide +kernel
theorem d129_2 : decode (mm_cb 129) 2 = .ok (.invokestatic 150, 3) := by decide +kernel
theorem d129_5 : decode (mm_cb 129) 5 = .ok (.ifCond .eq 10, 3) := by decide +kernel
theorem d129_8 : decode (mm_cb 129) 8 = .ok (.iload_n 2, 1) := by decide +kernel
theorem d129_9 : decode (mm_cb 129) 9 = .ok (.invokestatic 150, 3) := by decide +kernel
theorem d129_12 : decode (mm_cb 129) 12 = .ok (.ifCond .ne 7, 3) := by decide +kernel
theorem d129_15 : decode (mm_cb 129) 15 = .ok (.iconst 1, 1) := by decide +kernel
theorem d129_16 : decode (mm_cb 129) 16 = .ok (.goto 17, 3) := by decide +kernel
theorem d129_19 : decode (mm_cb 129) 19 = .ok (.aload_n 0, 1) := by decide +kernel
theorem d129_20 : decode (mm_cb 129) 20 = .ok (.getfield 144, 3) := by decide +kernel
theorem d129_23 : decode (mm_cb 129) 23 = .ok (.bipush 20, 2) := by decide +kernel
theorem d129_25 : decode (mm_cb 129) 25 = .ok (.if_icmp .ne 7, 3) := by decide +kernel
theorem d129_28 : decode (mm_cb 129) 28 = .ok (.iconst 2, 1) := by decide +kernel
theorem d129_29 : decode (mm_cb 129) 29 = .ok (.goto 4, 3) := by decide +kernel
theorem d129_32 : decode (mm_cb 129) 32 = .ok (.iconst 0, 1) := by decide +kernel
theorem d129_33 : decode (mm_cb 129) 33 = .ok (.putfield 65, 3) := by decide +kernel
theorem d129_36 : decode (mm_cb 129) 36 = .ok (.aload_n 0, 1) := by decide +kernel
theorem d129_37 : decode (mm_cb 129) 37 = .ok (.getfield 65, 3) := by decide +kernel
theorem d129_40 : decode (mm_cb 129) 40 = .ok (.ifCond .le 7, 3) := by decide +kernel
theorem d129_43 : decode (mm_cb 129) 43 = .ok (.iconst 0, 1) := by decide +kernel
theorem d129_44 : decode (mm_cb 129) 44 = .ok (.goto 10, 3) := by decide +kernel
theorem d129_47 : decode (mm_cb 129) 47 = .ok (.aload_n 0, 1) := by decide +kernel
theorem d129_48 : decode (mm_cb 129) 48 = .ok (.iconst 1, 1) := by decide +kernel
theorem d129_49 : decode (mm_cb 129) 49 = .ok (.iload_n 1, 1) := by decide +kernel
theorem d129_50 : decode (mm_cb 129) 50 = .ok (.iload_n 2, 1) := by decide +kernel
theorem d129_51 : decode (mm_cb 129) 51 = .ok (.invokevirtual 153, 3) := by decide +kernel
theorem d129_54 : decode (mm_cb 129) 54 = .ok (.ireturn, 1) := by decide +kernel
theorem d130_0 : decode (mm_cb 130) 0 = .ok (.aload_n 0, 1) := by decide +kernel
theorem d130_1 : decode (mm_cb 130) 1 = .ok (.iload_n 1, 1) := by decide +kernel
theorem d130_2 : decode (mm_cb 130) 2 = .ok (.ifCond .lt 8, 3) := by decide +kernel
theorem d130_5 : decode (mm_cb 130) 5 = .ok (.iload_n 1, 1) := by decide +kernel
theorem d130_6 : decode (mm_cb 130) 6 = .ok (.iconst 2, 1) := by decide +kernel
theorem d130_7 : decode (mm_cb 130) 7 = .ok (.if_icmp .le 7, 3) := by decide +kernel
