/-! ===== decoded ===== -/
theorem d83_0 : decode (mm_cb 83) 0 = .ok (.aload_n 0, 1) := by decide +kernel
theorem d83_1 : decode (mm_cb 83) 1 = .ok (.iload_n 1, 1) := by decide +kernel
theorem d83_2 : decode (mm_cb 83) 2 = .ok (.invokevirtual 97, 3) := by decide +kernel
theorem d83_5 : decode (mm_cb 83) 5 = .ok (.istore_n 3, 1) := by decide +kernel
theorem d83_6 : decode (mm_cb 83) 6 = .ok (.iload_n 3, 1) := by decide +kernel
theorem d83_7 : decode (mm_cb 83) 7 = .ok (.iconst (-1), 1) := by decide +kernel
theorem d83_8 : decode (mm_cb 83) 8 = .ok (.if_icmp .ne 6, 3) := by decide +kernel
theorem d83_11 : decode (mm_cb 83) 11 = .ok (.bipush (-2), 2) := by decide +kernel
theorem d83_13 : decode (mm_cb 83) 13 = .ok (.ireturn, 1) := by decide +kernel
theorem d83_14 : decode (mm_cb 83) 14 = .ok (.iload_n 3, 1) := by decide +kernel
theorem d83_15 : decode (mm_cb 83) 15 = .ok (.iload_n 1, 1) := by decide +kernel
theorem d83_16 : decode (mm_cb 83) 16 = .ok (.if_icmp .ne 14, 3) := by decide +kernel
theorem d83_19 : decode (mm_cb 83) 19 = .ok (.aload_n 0, 1) := by decide +kernel
theorem d83_20 : decode (mm_cb 83) 20 = .ok (.getfield 15, 3) := by decide +kernel
theorem d83_23 : decode (mm_cb 83) 23 = .ok (.iload_n 1, 1) := by decide +kernel
theorem d83_24 : decode (mm_cb 83) 24 = .ok (.iaload, 1) := by decide +kernel
theorem d83_25 : decode (mm_cb 83) 25 = .ok (.bipush (-2), 2) := by decide +kernel
theorem d83_27 : decode (mm_cb 83) 27 = .ok (.if_icmp .ne 5, 3) := by decide +kernel
theorem d83_30 : decode (mm_cb 83) 30 = .ok (.iload_n 3, 1) := by decide +kernel
theorem d83_31 : decode (mm_cb 83) 31 = .ok (.ireturn, 1) := by decide +kernel
theorem d83_32 : decode (mm_cb 83) 32 = .ok (.aload_n 0, 1) := by decide +kernel
theorem d83_33 : decode (mm_cb 83) 33 = .ok (.getfield 15, 3) := by decide +kernel
theorem d83_36 : decode (mm_cb 83) 36 = .ok (.iload_n 1, 1) := by decide +kernel
theorem d83_37 : decode (mm_cb 83) 37 = .ok (.iaload, 1) := by decide +kernel
theorem d83_38 : decode (mm_cb 83) 38 = .ok (.iload_n 2, 1) := by decide +kernel
theorem d83_39 : decode (mm_cb 83) 39 = .ok (.if_icmp .ne 7, 3) := by decide +kernel
theorem d83_42 : decode (mm_cb 83) 42 = .ok (.iconst (-1), 1) := by decide +kernel
theorem d83_43 : decode (mm_cb 83) 43 = .ok (.goto 5, 3) := by decide +kernel
theorem d83_46 : decode (mm_cb 83) 46 = .ok (.bipush (-2), 2) := by decide +kernel
theorem d83_48 : decode (mm_cb 83) 48 = .ok (.ireturn, 1) := by decide +kernel
theorem d84_0 : decode (mm_cb 84) 0 = .ok (.iload_n 1, 1) := by decide +kernel
theorem d84_1 : decode (mm_cb 84) 1 = .ok (.invokestatic 72, 3) := by decide +kernel
theorem d84_4 : decode (mm_cb 84) 4 = .ok (.istore_n 2, 1) := by decide +kernel
theorem d84_5 : decode (mm_cb 84) 5 = .ok (.iload_n 2, 1) := by decide +kernel
theorem d84_6 : decode (mm_cb 84) 6 = .ok (.ifCond .le 52, 3) := by decide +kernel
theorem d84_9 : decode (mm_cb 84) 9 = .ok (.iload_n 1, 1) := by decide +kernel
theorem d84_10 : decode (mm_cb 84) 10 = .ok (.iconst 2, 1) := by decide +kernel
theorem d84_11 : decode (mm_cb 84) 11 = .ok (.iload_n 2, 1) := by decide +kernel
theorem d84_12 : decode (mm_cb 84) 12 = .ok (.imul, 1) := by decide +kernel
theorem d84_13 : decode (mm_cb 84) 13 = .ok (.ishr, 1) := by decide +kernel
theorem d84_14 : decode (mm_cb 84) 14 = .ok (.istore_n 3, 1) := by decide +kernel
theorem d84_15 : decode (mm_cb 84) 15 = .ok (.iload_n 1, 1) := by decide +kernel
theorem d84_16 : decode (mm_cb 84) 16 = .ok (.iconst 2, 1) := by decide +kernel
theorem d84_17 : decode (mm_cb 84) 17 = .ok (.iload_n 2, 1) := by decide +kernel
theorem d84_18 : decode (mm_cb 84) 18 = .ok (.iconst 1, 1) := by decide +kernel
theorem d84_19 : decode (mm_cb 84) 19 = .ok (.isub, 1) := by decide +kernel
theorem d84_20 : decode (mm_cb 84) 20 = .ok (.imul, 1) := by decide +kernel
theorem d84_21 : decode (mm_cb 84) 21 = .ok (.ishr, 1) := by decide +kernel
theorem d84_22 : decode (mm_cb 84) 22 = .ok (.istore 4, 2) := by decide +kernel
theorem d84_24 : decode (mm_cb 84) 24 = .ok (.aload_n 0, 1) := by decide +kernel
theorem d84_25 : decode (mm_cb 84) 25 = .ok (.getfield 15, 3) := by decide +kernel
theorem d84_28 : decode (mm_cb 84) 28 = .ok (.iload_n 3, 1) := by decide +kernel
theorem d84_29 : decode (mm_cb 84) 29 = .ok (.iaload, 1) := by decide +kernel
theorem d84_30 : decode (mm_cb 84) 30 = .ok (.bipush (-2), 2) := by decide +kernel
theorem d84_32 : decode (mm_cb 84) 32 = .ok (.if_icmp .ne 5, 3) := by decide +kernel
theorem d84_35 : decode (mm_cb 84) 35 = .ok (.iload_n 3, 1) := by decide +kernel
theorem d84_36 : decode (mm_cb 84) 36 = .ok (.ireturn, 1) := by decide +kernel
theorem d84_37 : decode (mm_cb 84) 37 = .ok (.iload 4, 2) := by decide +kernel
theorem d84_39 : decode (mm_cb 84) 39 = .ok (.iconst 3, 1) := by decide +kernel
theorem d84_40 : decode (mm_cb 84) 40 = .ok (.iand, 1) := by decide +kernel
theorem d84_41 : decode (mm_cb 84) 41 = .ok (.aload_n 0, 1) := by decide +kernel
theorem d84_42 : decode (mm_cb 84) 42 = .ok (.getfield 18, 3) := by decide +kernel
theorem d84_45 : decode (mm_cb 84) 45 = .ok (.iload_n 3, 1) := by decide +kernel
theorem d84_46 : decode (mm_cb 84) 46 = .ok (.iaload, 1) := by decide +kernel
theorem d84_47 : decode (mm_cb 84) 47 = .ok (.if_icmp .le 5, 3) := by decide +kernel
theorem d84_50 : decode (mm_cb 84) 50 = .ok (.iconst (-1), 1) := by decide +kernel
theorem d84_51 : decode (mm_cb 84) 51 = .ok (.ireturn, 1) := by decide +kernel
theorem d84_52 : decode (mm_cb 84) 52 = .ok (.iinc 2 (-1), 3) := by decide +kernel
theorem d84_55 : decode (mm_cb 84) 55 = .ok (.goto (-50), 3) := by decide +kernel
theorem d84_58 : decode (mm_cb 84) 58 = .ok (.iload_n 1, 1) := by decide +kernel
theorem d84_59 : decode (mm_cb 84) 59 = .ok (.ireturn, 1) := by decide +kernel
theorem d85_0 : decode (mm_cb 85) 0 = .ok (.iconst 0, 1) := by decide +kernel
theorem d85_1 : decode (mm_cb 85) 1 = .ok (.istore_n 1, 1) := by decide +kernel
theorem d85_2 : decode (mm_cb 85) 2 = .ok (.iload_n 0, 1) := by decide +kernel
theorem d85_3 : decode (mm_cb 85) 3 = .ok (.istore_n 2, 1) := by decide +kernel
theorem d85_4 : decode (mm_cb 85) 4 = .ok (.iload_n 2, 1) := by decide +kernel
theorem d85_5 : decode (mm_cb 85) 5 = .ok (.ifCond .le 13, 3) := by decide +kernel
theorem d85_8 : decode (mm_cb 85) 8 = .ok (.iinc 1 1, 3) := by decide +kernel
theorem d85_11 : decode (mm_cb 85) 11 = .ok (.iload_n 2, 1) := by decide +kernel
theorem d85_12 : decode (mm_cb 85) 12 = .ok (.iconst 2, 1) := by decide +kernel
theorem d85_13 : decode (mm_cb 85) 13 = .ok (.ishr, 1) := by decide +kernel
theorem d85_14 : decode (mm_cb 85) 14 = .ok (.istore_n 2, 1) := by decide +kernel
theorem d85_15 : decode (mm_cb 85) 15 = .ok (.goto (-11), 3) := by decide +kernel
theorem d85_18 : decode (mm_cb 85) 18 = .ok (.iload_n 1, 1) := by decide +kernel
theorem d85_19 : decode (mm_cb 85) 19 = .ok (.ireturn, 1) := by decide +kernel
theorem d86_0 : decode (mm_cb 86) 0 = .ok (.aload_n 0, 1) := by decide +kernel
theorem d86_1 : decode (mm_cb 86) 1 = .ok (.iload_n 1, 1) := by decide +kernel
theorem d86_2 : decode (mm_cb 86) 2 = .ok (.invokevirtual 97, 3) := by decide +kernel
theorem d86_5 : decode (mm_cb 86) 5 = .ok (.istore_n 3, 1) := by decide +kernel
theorem d86_6 : decode (mm_cb 86) 6 = .ok (.iload_n 3, 1) := by decide +kernel
theorem d86_7 : decode (mm_cb 86) 7 = .ok (.iload_n 1, 1) := by decide +kernel
theorem d86_8 : decode (mm_cb 86) 8 = .ok (.if_icmp .eq 10, 3) := by decide +kernel
theorem d86_11 : decode (mm_cb 86) 11 = .ok (.iload_n 3, 1) := by decide +kernel
theorem d86_12 : decode (mm_cb 86) 12 = .ok (.iconst (-1), 1) := by decide +kernel
theorem d86_13 : decode (mm_cb 86) 13 = .ok (.if_icmp .eq 5, 3) := by decide +kernel
theorem d86_16 : decode (mm_cb 86) 16 = .ok (.iload_n 3, 1) := by decide +kernel
theorem d86_17 : decode (mm_cb 86) 17 = .ok (.ireturn, 1) := by decide +kernel
theorem d86_18 : decode (mm_cb 86) 18 = .ok (.aload_n 0, 1) := by decide +kernel
theorem d86_19 : decode (mm_cb 86) 19 = .ok (.iload_n 2, 1) := by decide +kernel
theorem d86_20 : decode (mm_cb 86) 20 = .ok (.invokevirtual 97, 3) := by decide +kernel
theorem d86_23 : decode (mm_cb 86) 23 = .ok (.istore 4, 2) := by decide +kernel
theorem d86_25 : decode (mm_cb 86) 25 = .ok (.iload 4, 2) := by decide +kernel
theorem d86_27 : decode (mm_cb 86) 27 = .ok (.iload_n 2, 1) := by decide +kernel
theorem d86_28 : decode (mm_cb 86) 28 = .ok (.if_icmp .eq 12, 3) := by decide +kernel
theorem d86_31 : decode (mm_cb 86) 31 = .ok (.iload 4, 2) := by decide +kernel
theorem d86_33 : decode (mm_cb 86) 33 = .ok (.iconst (-1), 1) := by decide +kernel
theorem d86_34 : decode (mm_cb 86) 34 = .ok (.if_icmp .eq 6, 3) := by decide +kernel
theorem d86_37 : decode (mm_cb 86) 37 = .ok (.iload 4, 2) := by decide +kernel
theorem d86_39 : decode (mm_cb 86) 39 = .ok (.ireturn, 1) := by decide +kernel
theorem d86_40 : decode (mm_cb 86) 40 = .ok (.iload_n 3, 1) := by decide +kernel
theorem d86_41 : decode (mm_cb 86) 41 = .ok (.iconst (-1), 1) := by decide +kernel
theorem d86_42 : decode (mm_cb 86) 42 = .ok (.if_icmp .eq 9, 3) := by decide +kernel
theorem d86_45 : decode (mm_cb 86) 45 = .ok (.iload 4, 2) := by decide +kernel
theorem d86_47 : decode (mm_cb 86) 47 = .ok (.iconst (-1), 1) := by decide +kernel
theorem d86_48 : decode (mm_cb 86) 48 = .ok (.if_icmp .ne 16, 3) := by decide +kernel
theorem d86_51 : decode (mm_cb 86) 51 = .ok (.iload_n 3, 1) := by decide +kernel
theorem d86_52 : decode (mm_cb 86) 52 = .ok (.iload 4, 2) := by decide +kernel
theorem d86_54 : decode (mm_cb 86) 54 = .ok (.if_icmp .ne 7, 3) := by decide +kernel
theorem d86_57 : decode (mm_cb 86) 57 = .ok (.iconst (-1), 1) := by decide +kernel
theorem d86_58 : decode (mm_cb 86) 58 = .ok (.goto 5, 3) := by decide +kernel
theorem d86_61 : decode (mm_cb 86) 61 = .ok (.bipush (-2), 2) := by decide +kernel
theorem d86_63 : decode (mm_cb 86) 63 = .ok (.ireturn, 1) := by decide +kernel
theorem d86_64 : decode (mm_cb 86) 64 = .ok (.aload_n 0, 1) := by decide +kernel
theorem d86_65 : decode (mm_cb 86) 65 = .ok (.iload_n 1, 1) := by decide +kernel
theorem d86_66 : decode (mm_cb 86) 66 = .ok (.iload_n 2, 1) := by decide +kernel
theorem d86_67 : decode (mm_cb 86) 67 = .ok (.iconst 0, 1) := by decide +kernel
theorem d86_68 : decode (mm_cb 86) 68 = .ok (.invokevirtual 100, 3) := by decide +kernel
theorem d86_71 : decode (mm_cb 86) 71 = .ok (.ireturn, 1) := by decide +kernel
theorem d87_0 : decode (mm_cb 87) 0 = .ok (.aload_n 0, 1) := by decide +kernel
theorem d87_1 : decode (mm_cb 87) 1 = .ok (.getfield 15, 3) := by decide +kernel
theorem d87_4 : decode (mm_cb 87) 4 = .ok (.iload_n 1, 1) := by decide +kernel
theorem d87_5 : decode (mm_cb 87) 5 = .ok (.iaload, 1) := by decide +kernel
theorem d87_6 : decode (mm_cb 87) 6 = .ok (.bipush (-2), 2) := by decide +kernel
theorem d87_8 : decode (mm_cb 87) 8 = .ok (.if_icmp .ne 5, 3) := by decide +kernel
theorem d87_11 : decode (mm_cb 87) 11 = .ok (.iload_n 1, 1) := by decide +kernel
theorem d87_12 : decode (mm_cb 87) 12 = .ok (.ireturn, 1) := by decide +kernel
theorem d87_13 : decode (mm_cb 87) 13 = .ok (.aload_n 0, 1) := by decide +kernel
theorem d87_14 : decode (mm_cb 87) 14 = .ok (.getfield 15, 3) := by decide +kernel
theorem d87_17 : decode (mm_cb 87) 17 = .ok (.iload_n 2, 1) := by decide +kernel
theorem d87_18 : decode (mm_cb 87) 18 = .ok (.iaload, 1) := by decide +kernel
theorem d87_19 : decode (mm_cb 87) 19 = .ok (.bipush (-2), 2) := by decide +kernel
theorem d87_21 : decode (mm_cb 87) 21 = .ok (.if_icmp .ne 5, 3) := by decide +kernel
theorem d87_24 : decode (mm_cb 87) 24 = .ok (.iload_n 2, 1) := by decide +kernel
theorem d87_25 : decode (mm_cb 87) 25 = .ok (.ireturn, 1) := by decide +kernel
theorem d87_26 : decode (mm_cb 87) 26 = .ok (.aload_n 0, 1) := by decide +kernel
theorem d87_27 : decode (mm_cb 87) 27 = .ok (.getfield 15, 3) := by decide +kernel
theorem d87_30 : decode (mm_cb 87) 30 = .ok (.iload_n 1, 1) := by decide +kernel
theorem d87_31 : decode (mm_cb 87) 31 = .ok (.iaload, 1) := by decide +kernel
theorem d87_32 : decode (mm_cb 87) 32 = .ok (.aload_n 0, 1) := by decide +kernel
theorem d87_33 : decode (mm_cb 87) 33 = .ok (.getfield 15, 3) := by decide +kernel
theorem d87_36 : decode (mm_cb 87) 36 = .ok (.iload_n 2, 1) := by decide +kernel
theorem d87_37 : decode (mm_cb 87) 37 = .ok (.iaload, 1) := by decide +kernel
theorem d87_38 : decode (mm_cb 87) 38 = .ok (.if_icmp .ne 18, 3) := by decide +kernel
theorem d87_41 : decode (mm_cb 87) 41 = .ok (.aload_n 0, 1) := by decide +kernel
theorem d87_42 : decode (mm_cb 87) 42 = .ok (.getfield 18, 3) := by decide +kernel
theorem d87_45 : decode (mm_cb 87) 45 = .ok (.iload_n 1, 1) := by decide +kernel
theorem d87_46 : decode (mm_cb 87) 46 = .ok (.iaload, 1) := by decide +kernel
theorem d87_47 : decode (mm_cb 87) 47 = .ok (.aload_n 0, 1) := by decide +kernel
theorem d87_48 : decode (mm_cb 87) 48 = .ok (.getfield 18, 3) := by decide +kernel
theorem d87_51 : decode (mm_cb 87) 51 = .ok (.iload_n 2, 1) := by decide +kernel
theorem d87_52 : decode (mm_cb 87) 52 = .ok (.iaload, 1) := by decide +kernel
theorem d87_53 : decode (mm_cb 87) 53 = .ok (.if_icmp .eq 6, 3) := by decide +kernel
theorem d87_56 : decode (mm_cb 87) 56 = .ok (.bipush (-2), 2) := by decide +kernel
theorem d87_58 : decode (mm_cb 87) 58 = .ok (.ireturn, 1) := by decide +kernel
theorem d87_59 : decode (mm_cb 87) 59 = .ok (.iconst (-1), 1) := by decide +kernel
theorem d87_60 : decode (mm_cb 87) 60 = .ok (.istore 4, 2) := by decide +kernel
theorem d87_62 : decode (mm_cb 87) 62 = .ok (.iload_n 3, 1) := by decide +kernel
theorem d87_63 : decode (mm_cb 87) 63 = .ok (.iconst 4, 1) := by decide +kernel
theorem d87_64 : decode (mm_cb 87) 64 = .ok (.if_icmp .ge 50, 3) := by decide +kernel
theorem d87_67 : decode (mm_cb 87) 67 = .ok (.iconst 0, 1) := by decide +kernel
theorem d87_68 : decode (mm_cb 87) 68 = .ok (.istore 5, 2) := by decide +kernel
theorem d87_70 : decode (mm_cb 87) 70 = .ok (.iload 5, 2) := by decide +kernel
theorem d87_72 : decode (mm_cb 87) 72 = .ok (.aload_n 0, 1) := by decide +kernel
theorem d87_73 : decode (mm_cb 87) 73 = .ok (.getfield 18, 3) := by decide +kernel
theorem d87_76 : decode (mm_cb 87) 76 = .ok (.iload_n 1, 1) := by decide +kernel
theorem d87_77 : decode (mm_cb 87) 77 = .ok (.iaload, 1) := by decide +kernel
theorem d87_78 : decode (mm_cb 87) 78 = .ok (.if_icmp .ge 36, 3) := by decide +kernel
theorem d87_81 : decode (mm_cb 87) 81 = .ok (.iload 4, 2) := by decide +kernel
theorem d87_83 : decode (mm_cb 87) 83 = .ok (.iconst (-1), 1) := by decide +kernel
theorem d87_84 : decode (mm_cb 87) 84 = .ok (.if_icmp .ne 30, 3) := by decide +kernel
theorem d87_87 : decode (mm_cb 87) 87 = .ok (.aload_n 0, 1) := by decide +kernel
theorem d87_88 : decode (mm_cb 87) 88 = .ok (.iload_n 1, 1) := by decide +kernel
theorem d87_89 : decode (mm_cb 87) 89 = .ok (.iload 5, 2) := by decide +kernel
theorem d87_91 : decode (mm_cb 87) 91 = .ok (.invokestatic 61, 3) := by decide +kernel
theorem d87_94 : decode (mm_cb 87) 94 = .ok (.iload_n 2, 1) := by decide +kernel
theorem d87_95 : decode (mm_cb 87) 95 = .ok (.iload 5, 2) := by decide +kernel
theorem d87_97 : decode (mm_cb 87) 97 = .ok (.invokestatic 61, 3) := by decide +kernel
theorem d87_100 : decode (mm_cb 87) 100 = .ok (.iload_n 3, 1) := by decide +kernel
theorem d87_101 : decode (mm_cb 87) 101 = .ok (.iconst 1, 1) := by decide +kernel
theorem d87_102 : decode (mm_cb 87) 102 = .ok (.iadd, 1) := by decide +kernel
theorem d87_103 : decode (mm_cb 87) 103 = .ok (.invokevirtual 100, 3) := by decide +kernel
theorem d87_106 : decode (mm_cb 87) 106 = .ok (.istore 4, 2) := by decide +kernel
theorem d87_108 : decode (mm_cb 87) 108 = .ok (.iinc 5 1, 3) := by decide +kernel
theorem d87_111 : decode (mm_cb 87) 111 = .ok (.goto (-41), 3) := by decide +kernel
theorem d87_114 : decode (mm_cb 87) 114 = .ok (.iload 4, 2) := by decide +kernel
theorem d87_116 : decode (mm_cb 87) 116 = .ok (.ireturn, 1) := by decide +kernel
theorem d88_0 : decode (mm_cb 88) 0 = .ok (.iload_n 0, 1) := by decide +kernel
theorem d88_1 : decode (mm_cb 88) 1 = .ok (.lookupswitch 32 #[((-2), 30), ((-1), 27)], 27) := by decide +kernel
theorem d88_28 : decode (mm_cb 88) 28 = .ok (.bipush (-2), 2) := by decide +kernel
theorem d88_30 : decode (mm_cb 88) 30 = .ok (.ireturn, 1) := by decide +kernel
theorem d88_31 : decode (mm_cb 88) 31 = .ok (.iconst (-1), 1) := by decide +kernel
theorem d88_32 : decode (mm_cb 88) 32 = .ok (.ireturn, 1) := by decide +kernel
theorem d88_33 : decode (mm_cb 88) 33 = .ok (.iload_n 0, 1) := by decide +kernel
theorem d88_34 : decode (mm_cb 88) 34 = .ok (.ireturn, 1) := by decide +kernel
theorem d89_0 : decode (mm_cb 89) 0 = .ok (.aload_n 3, 1) := by decide +kernel
theorem d89_1 : decode (mm_cb 89) 1 = .ok (.iconst 0, 1) := by decide +kernel
theorem d89_2 : decode (mm_cb 89) 2 = .ok (.aload_n 0, 1) := by decide +kernel
theorem d89_3 : decode (mm_cb 89) 3 = .ok (.iload_n 1, 1) := by decide +kernel
theorem d89_4 : decode (mm_cb 89) 4 = .ok (.iload_n 2, 1) := by decide +kernel
theorem d89_5 : decode (mm_cb 89) 5 = .ok (.invokevirtual 47, 3) := by decide +kernel
theorem d89_8 : decode (mm_cb 89) 8 = .ok (.ifCond .eq 7, 3) := by decide +kernel
theorem d89_11 : decode (mm_cb 89) 11 = .ok (.lconst 1, 1) := by decide +kernel
theorem d89_12 : decode (mm_cb 89) 12 = .ok (.goto 4, 3) := by decide +kernel
theorem d89_15 : decode (mm_cb 89) 15 = .ok (.lconst 0, 1) := by decide +kernel
theorem d89_16 : decode (mm_cb 89) 16 = .ok (.lastore, 1) := by decide +kernel
theorem d89_17 : decode (mm_cb 89) 17 = .ok (.goto 15, 3) := by decide +kernel
theorem d89_20 : decode (mm_cb 89) 20 = .ok (.astore 4, 2) := by decide +kernel
theorem d89_22 : decode (mm_cb 89) 22 = .ok (.iconst 1, 1) := by decide +kernel
theorem d89_23 : decode (mm_cb 89) 23 = .ok (.ireturn, 1) := by decide +kernel
theorem d89_24 : decode (mm_cb 89) 24 = .ok (.astore 4, 2) := by decide +kernel
theorem d89_26 : decode (mm_cb 89) 26 = .ok (.iconst 2, 1) := by decide +kernel
theorem d89_27 : decode (mm_cb 89) 27 = .ok (.ireturn, 1) := by decide +kernel
theorem d89_28 : decode (mm_cb 89) 28 = .ok (.astore 4, 2) := by decide +kernel
theorem d89_30 : decode (mm_cb 89) 30 = .ok (.iconst 3, 1) := by decide +kernel
theorem d89_31 : decode (mm_cb 89) 31 = .ok (.ireturn, 1) := by decide +kernel
theorem d89_32 : decode (mm_cb 89) 32 = .ok (.iconst 0, 1) := by decide +kernel
theorem d89_33 : decode (mm_cb 89) 33 = .ok (.ireturn, 1) := by decide +kernel
theorem d90_0 : decode (mm_cb 90) 0 = .ok (.iload_n 1, 1) := by decide +kernel
theorem d90_1 : decode (mm_cb 90) 1 = .ok (.invokestatic 81, 3) := by decide +kernel
theorem d90_4 : decode (mm_cb 90) 4 = .ok (.iload_n 2, 1) := by decide +kernel
theorem d90_5 : decode (mm_cb 90) 5 = .ok (.invokestatic 113, 3) := by decide +kernel
theorem d90_8 : decode (mm_cb 90) 8 = .ok (.aload_n 0, 1) := by decide +kernel
theorem d90_9 : decode (mm_cb 90) 9 = .ok (.invokevirtual 174, 3) := by decide +kernel
theorem d90_12 : decode (mm_cb 90) 12 = .ok (.aload_n 0, 1) := by decide +kernel
theorem d90_13 : decode (mm_cb 90) 13 = .ok (.getfield 69, 3) := by decide +kernel
theorem d90_16 : decode (mm_cb 90) 16 = .ok (.iload_n 1, 1) := by decide +kernel
theorem d90_17 : decode (mm_cb 90) 17 = .ok (.iload_n 2, 1) := by decide +kernel
theorem d90_18 : decode (mm_cb 90) 18 = .ok (.invokevirtual 184, 3) := by decide +kernel
theorem d90_21 : decode (mm_cb 90) 21 = .ok (.astore_n 3, 1) := by decide +kernel
theorem d90_22 : decode (mm_cb 90) 22 = .ok (.aload_n 0, 1) := by decide +kernel
theorem d90_23 : decode (mm_cb 90) 23 = .ok (.aload_n 0, 1) := by decide +kernel
theorem d90_24 : decode (mm_cb 90) 24 = .ok (.getfield 69, 3) := by decide +kernel
theorem d90_27 : decode (mm_cb 90) 27 = .ok (.invokevirtual 188, 3) := by decide +kernel
theorem d90_30 : decode (mm_cb 90) 30 = .ok (.putfield 73, 3) := by decide +kernel
theorem d90_33 : decode (mm_cb 90) 33 = .ok (.aload_n 0, 1) := by decide +kernel
theorem d90_34 : decode (mm_cb 90) 34 = .ok (.aload_n 0, 1) := by decide +kernel
theorem d90_35 : decode (mm_cb 90) 35 = .ok (.getfield 69, 3) := by decide +kernel
theorem d90_38 : decode (mm_cb 90) 38 = .ok (.invokevirtual 191, 3) := by decide +kernel
theorem d90_41 : decode (mm_cb 90) 41 = .ok (.putfield 77, 3) := by decide +kernel
theorem d90_44 : decode (mm_cb 90) 44 = .ok (.aload_n 3, 1) := by decide +kernel
theorem d90_45 : decode (mm_cb 90) 45 = .ok (.getstatic 195, 3) := by decide +kernel
theorem d90_48 : decode (mm_cb 90) 48 = .ok (.if_acmp .ne 13, 3) := by decide +kernel
theorem d90_51 : decode (mm_cb 90) 51 = .ok (.new 100, 3) := by decide +kernel
theorem d90_54 : decode (mm_cb 90) 54 = .ok (.dup, 1) := by decide +kernel
theorem d90_55 : decode (mm_cb 90) 55 = .ok (.ldc 201, 2) := by decide +kernel
theorem d90_57 : decode (mm_cb 90) 57 = .ok (.invokespecial 104, 3) := by decide +kernel
theorem d90_60 : decode (mm_cb 90) 60 = .ok (.athrow, 1) := by decide +kernel
theorem d90_61 : decode (mm_cb 90) 61 = .ok (.aload_n 3, 1) := by decide +kernel
theorem d90_62 : decode (mm_cb 90) 62 = .ok (.getstatic 203, 3) := by decide +kernel
theorem d90_65 : decode (mm_cb 90) 65 = .ok (.if_acmp .ne 14, 3) := by decide +kernel
theorem d90_68 : decode (mm_cb 90) 68 = .ok (.aload_n 0, 1) := by decide +kernel
theorem d90_69 : decode (mm_cb 90) 69 = .ok (.getfield 44, 3) := by decide +kernel
theorem d90_72 : decode (mm_cb 90) 72 = .ok (.aload_n 0, 1) := by decide +kernel
theorem d90_73 : decode (mm_cb 90) 73 = .ok (.getfield 35, 3) := by decide +kernel
theorem d90_76 : decode (mm_cb 90) 76 = .ok (.invokevirtual 128, 3) := by decide +kernel
theorem d90_79 : decode (mm_cb 90) 79 = .ok (.aload_n 3, 1) := by decide +kernel
theorem d90_80 : decode (mm_cb 90) 80 = .ok (.getstatic 203, 3) := by decide +kernel
theorem d90_83 : decode (mm_cb 90) 83 = .ok (.if_acmp .eq 7, 3) := by decide +kernel
theorem d90_86 : decode (mm_cb 90) 86 = .ok (.iconst 1, 1) := by decide +kernel
theorem d90_87 : decode (mm_cb 90) 87 = .ok (.goto 4, 3) := by decide +kernel
theorem d90_90 : decode (mm_cb 90) 90 = .ok (.iconst 0, 1) := by decide +kernel
theorem d90_91 : decode (mm_cb 90) 91 = .ok (.ireturn, 1) := by decide +kernel
theorem d91_0 : decode (mm_cb 91) 0 = .ok (.aload_n 0, 1) := by decide +kernel
theorem d91_1 : decode (mm_cb 91) 1 = .ok (.getfield 26, 3) := by decide +kernel
theorem d91_4 : decode (mm_cb 91) 4 = .ok (.iload_n 1, 1) := by decide +kernel
theorem d91_5 : decode (mm_cb 91) 5 = .ok (.invokevirtual 34, 3) := by decide +kernel
theorem d91_8 : decode (mm_cb 91) 8 = .ok (.aload_n 0, 1) := by decide +kernel
theorem d91_9 : decode (mm_cb 91) 9 = .ok (.iconst 0, 1) := by decide +kernel
theorem d91_10 : decode (mm_cb 91) 10 = .ok (.putfield 15, 3) := by decide +kernel
theorem d91_13 : decode (mm_cb 91) 13 = .ok (.aload_n 0, 1) := by decide +kernel
theorem d91_14 : decode (mm_cb 91) 14 = .ok (.iconst 0, 1) := by decide +kernel
theorem d91_15 : decode (mm_cb 91) 15 = .ok (.putfield 19, 3) := by decide +kernel
theorem d91_18 : decode (mm_cb 91) 18 = .ok (.aload_n 0, 1) := by decide +kernel
theorem d91_19 : decode (mm_cb 91) 19 = .ok (.lconst 0, 1) := by decide +kernel
theorem d91_20 : decode (mm_cb 91) 20 = .ok (.putfield 22, 3) := by decide +kernel
theorem d91_23 : decode (mm_cb 91) 23 = .ok (.iconst 1, 1) := by decide +kernel
theorem d91_24 : decode (mm_cb 91) 24 = .ok (.istore_n 3, 1) := by decide +kernel
theorem d91_25 : decode (mm_cb 91) 25 = .ok (.iload_n 3, 1) := by decide +kernel
theorem d91_26 : decode (mm_cb 91) 26 = .ok (.ifCond .eq 127, 3) := by decide +kernel
theorem d91_29 : decode (mm_cb 91) 29 = .ok (.aload_n 0, 1) := by decide +kernel
theorem d91_30 : decode (mm_cb 91) 30 = .ok (.getfield 19, 3) := by decide +kernel
theorem d91_33 : decode (mm_cb 91) 33 = .ok (.sipush 2000, 3) := by decide +kernel
theorem d91_36 : decode (mm_cb 91) 36 = .ok (.if_icmp .ge 117, 3) := by decide +kernel
theorem d91_39 : decode (mm_cb 91) 39 = .ok (.aload_n 0, 1) := by decide +kernel
theorem d91_40 : decode (mm_cb 91) 40 = .ok (.getfield 30, 3) := by decide +kernel
theorem d91_43 : decode (mm_cb 91) 43 = .ok (.aload_n 0, 1) := by decide +kernel
theorem d91_44 : decode (mm_cb 91) 44 = .ok (.getfield 26, 3) := by decide +kernel
theorem d91_47 : decode (mm_cb 91) 47 = .ok (.invokevirtual 40, 3) := by decide +kernel
theorem d91_50 : decode (mm_cb 91) 50 = .ok (.istore 4, 2) := by decide +kernel
theorem d91_52 : decode (mm_cb 91) 52 = .ok (.aload_n 0, 1) := by decide +kernel
theorem d91_53 : decode (mm_cb 91) 53 = .ok (.dup, 1) := by decide +kernel
theorem d91_54 : decode (mm_cb 91) 54 = .ok (.getfield 19, 3) := by decide +kernel
theorem d91_57 : decode (mm_cb 91) 57 = .ok (.iconst 1, 1) := by decide +kernel
theorem d91_58 : decode (mm_cb 91) 58 = .ok (.iadd, 1) := by decide +kernel
theorem d91_59 : decode (mm_cb 91) 59 = .ok (.putfield 19, 3) := by decide +kernel
theorem d91_62 : decode (mm_cb 91) 62 = .ok (.iload 4, 2) := by decide +kernel
theorem d91_64 : decode (mm_cb 91) 64 = .ok (.iconst (-1), 1) := by decide +kernel
theorem d91_65 : decode (mm_cb 91) 65 = .ok (.if_icmp .ne 25, 3) := by decide +kernel
theorem d91_68 : decode (mm_cb 91) 68 = .ok (.aload_n 0, 1) := by decide +kernel
theorem d91_69 : decode (mm_cb 91) 69 = .ok (.aload_n 0, 1) := by decide +kernel
theorem d91_70 : decode (mm_cb 91) 70 = .ok (.getfield 22, 3) := by decide +kernel
theorem d91_73 : decode (mm_cb 91) 73 = .ok (.aload_n 0, 1) := by decide +kernel
theorem d91_74 : decode (mm_cb 91) 74 = .ok (.getfield 26, 3) := by decide +kernel
theorem d91_77 : decode (mm_cb 91) 77 = .ok (.iload_n 2, 1) := by decide +kernel
theorem d91_78 : decode (mm_cb 91) 78 = .ok (.invokevirtual 46, 3) := by decide +kernel
theorem d91_81 : decode (mm_cb 91) 81 = .ok (.invokestatic 50, 3) := by decide +kernel
theorem d91_84 : decode (mm_cb 91) 84 = .ok (.putfield 22, 3) := by decide +kernel
theorem d91_87 : decode (mm_cb 91) 87 = .ok (.goto 57, 3) := by decide +kernel
theorem d91_90 : decode (mm_cb 91) 90 = .ok (.iload 4, 2) := by decide +kernel
theorem d91_92 : decode (mm_cb 91) 92 = .ok (.bipush (-2), 2) := by decide +kernel
theorem d91_94 : decode (mm_cb 91) 94 = .ok (.if_icmp .ne 20, 3) := by decide +kernel
theorem d91_97 : decode (mm_cb 91) 97 = .ok (.aload_n 0, 1) := by decide +kernel
theorem d91_98 : decode (mm_cb 91) 98 = .ok (.getfield 26, 3) := by decide +kernel
theorem d91_101 : decode (mm_cb 91) 101 = .ok (.iload_n 2, 1) := by decide +kernel
theorem d91_102 : decode (mm_cb 91) 102 = .ok (.invokevirtual 46, 3) := by decide +kernel
theorem d91_105 : decode (mm_cb 91) 105 = .ok (.lconst 0, 1) := by decide +kernel
theorem d91_106 : decode (mm_cb 91) 106 = .ok (.lcmp, 1) := by decide +kernel
theorem d91_107 : decode (mm_cb 91) 107 = .ok (.ifCond .le 37, 3) := by decide +kernel
theorem d91_110 : decode (mm_cb 91) 110 = .ok (.getstatic 54, 3) := by decide +kernel
theorem d91_113 : decode (mm_cb 91) 113 = .ok (.areturn, 1) := by decide +kernel
theorem d91_114 : decode (mm_cb 91) 114 = .ok (.aload_n 0, 1) := by decide +kernel
theorem d91_115 : decode (mm_cb 91) 115 = .ok (.getfield 15, 3) := by decide +kernel
theorem d91_118 : decode (mm_cb 91) 118 = .ok (.bipush 121, 2) := by decide +kernel
theorem d91_120 : decode (mm_cb 91) 120 = .ok (.if_icmp .ge 24, 3) := by decide +kernel
theorem d91_123 : decode (mm_cb 91) 123 = .ok (.aload_n 0, 1) := by decide +kernel
theorem d91_124 : decode (mm_cb 91) 124 = .ok (.getfield 9, 3) := by decide +kernel
theorem d91_127 : decode (mm_cb 91) 127 = .ok (.aload_n 0, 1) := by decide +kernel
theorem d91_128 : decode (mm_cb 91) 128 = .ok (.getfield 15, 3) := by decide +kernel
theorem d91_131 : decode (mm_cb 91) 131 = .ok (.iload 4, 2) := by decide +kernel
theorem d91_133 : decode (mm_cb 91) 133 = .ok (.iastore, 1) := by decide +kernel
theorem d91_134 : decode (mm_cb 91) 134 = .ok (.aload_n 0, 1) := by decide +kernel
theorem d91_135 : decode (mm_cb 91) 135 = .ok (.dup, 1) := by decide +kernel
theorem d91_136 : decode (mm_cb 91) 136 = .ok (.getfield 15, 3) := by decide +kernel
theorem d91_139 : decode (mm_cb 91) 139 = .ok (.iconst 1, 1) := by decide +kernel
theorem d91_140 : decode (mm_cb 91) 140 = .ok (.iadd, 1) := by decide +kernel
theorem d91_141 : decode (mm_cb 91) 141 = .ok (.putfield 15, 3) := by decide +kernel
theorem d91_144 : decode (mm_cb 91) 144 = .ok (.aload_n 0, 1) := by decide +kernel
theorem d91_145 : decode (mm_cb 91) 145 = .ok (.iload_n 2, 1) := by decide +kernel
theorem d91_146 : decode (mm_cb 91) 146 = .ok (.invokevirtual 60, 3) := by decide +kernel
theorem d91_149 : decode (mm_cb 91) 149 = .ok (.istore_n 3, 1) := by decide +kernel
theorem d91_150 : decode (mm_cb 91) 150 = .ok (.goto (-125), 3) := by decide +kernel
theorem d91_153 : decode (mm_cb 91) 153 = .ok (.iload_n 3, 1) := by decide +kernel
theorem d91_154 : decode (mm_cb 91) 154 = .ok (.ifCond .eq 9, 3) := by decide +kernel
theorem d91_157 : decode (mm_cb 91) 157 = .ok (.getstatic 64, 3) := by decide +kernel
theorem d91_160 : decode (mm_cb 91) 160 = .ok (.goto 6, 3) := by decide +kernel
theorem d91_163 : decode (mm_cb 91) 163 = .ok (.getstatic 67, 3) := by decide +kernel
theorem d91_166 : decode (mm_cb 91) 166 = .ok (.areturn, 1) := by decide +kernel
theorem d92_0 : decode (mm_cb 92) 0 = .ok (.aload_n 0, 1) := by decide +kernel
theorem d92_1 : decode (mm_cb 92) 1 = .ok (.getfield 9, 3) := by decide +kernel
theorem d92_4 : decode (mm_cb 92) 4 = .ok (.iconst 0, 1) := by decide +kernel
theorem d92_5 : decode (mm_cb 92) 5 = .ok (.iload_n 1, 1) := by decide +kernel
theorem d92_6 : decode (mm_cb 92) 6 = .ok (.iastore, 1) := by decide +kernel
theorem d92_7 : decode (mm_cb 92) 7 = .ok (.aload_n 0, 1) := by decide +kernel
theorem d92_8 : decode (mm_cb 92) 8 = .ok (.iconst 0, 1) := by decide +kernel
theorem d92_9 : decode (mm_cb 92) 9 = .ok (.invokevirtual 29, 3) := by decide +kernel
theorem d92_12 : decode (mm_cb 92) 12 = .ok (.return_, 1) := by decide +kernel
theorem d93_0 : decode (mm_cb 93) 0 = .ok (.aload_n 0, 1) := by decide +kernel
theorem d93_1 : decode (mm_cb 93) 1 = .ok (.iconst 0, 1) := by decide +kernel
theorem d93_2 : decode (mm_cb 93) 2 = .ok (.iload_n 1, 1) := by decide +kernel
theorem d93_3 : decode (mm_cb 93) 3 = .ok (.invokevirtual 75, 3) := by decide +kernel
theorem d93_6 : decode (mm_cb 93) 6 = .ok (.lreturn, 1) := by decide +kernel
theorem d94_0 : decode (mm_cb 94) 0 = .ok (.aload_n 0, 1) := by decide +kernel
theorem d94_1 : decode (mm_cb 94) 1 = .ok (.getfield 15, 3) := by decide +kernel
theorem d94_4 : decode (mm_cb 94) 4 = .ok (.iload_n 1, 1) := by decide +kernel
theorem d94_5 : decode (mm_cb 94) 5 = .ok (.iaload, 1) := by decide +kernel
theorem d94_6 : decode (mm_cb 94) 6 = .ok (.bipush (-2), 2) := by decide +kernel
theorem d94_8 : decode (mm_cb 94) 8 = .ok (.if_icmp .ne 18, 3) := by decide +kernel
theorem d94_11 : decode (mm_cb 94) 11 = .ok (.aload_n 0, 1) := by decide +kernel
theorem d94_12 : decode (mm_cb 94) 12 = .ok (.getfield 25, 3) := by decide +kernel
theorem d94_15 : decode (mm_cb 94) 15 = .ok (.aload_n 0, 1) := by decide +kernel
theorem d94_16 : decode (mm_cb 94) 16 = .ok (.getfield 9, 3) := by decide +kernel
theorem d94_19 : decode (mm_cb 94) 19 = .ok (.iload_n 1, 1) := by decide +kernel
theorem d94_20 : decode (mm_cb 94) 20 = .ok (.iaload, 1) := by decide +kernel
theorem d94_21 : decode (mm_cb 94) 21 = .ok (.iload_n 2, 1) := by decide +kernel
theorem d94_22 : decode (mm_cb 94) 22 = .ok (.invokevirtual 78, 3) := by decide +kernel
theorem d94_25 : decode (mm_cb 94) 25 = .ok (.lreturn, 1) := by decide +kernel
theorem d94_26 : decode (mm_cb 94) 26 = .ok (.lconst 1, 1) := by decide +kernel
theorem d94_27 : decode (mm_cb 94) 27 = .ok (.lstore_n 3, 1) := by decide +kernel
theorem d94_28 : decode (mm_cb 94) 28 = .ok (.iload_n 2, 1) := by decide +kernel
theorem d94_29 : decode (mm_cb 94) 29 = .ok (.ifCond .le 41, 3) := by decide +kernel
theorem d94_32 : decode (mm_cb 94) 32 = .ok (.iconst 0, 1) := by decide +kernel
theorem d94_33 : decode (mm_cb 94) 33 = .ok (.istore 5, 2) := by decide +kernel
theorem d94_35 : decode (mm_cb 94) 35 = .ok (.iload 5, 2) := by decide +kernel
theorem d94_37 : decode (mm_cb 94) 37 = .ok (.aload_n 0, 1) := by decide +kernel
theorem d94_38 : decode (mm_cb 94) 38 = .ok (.getfield 18, 3) := by decide +kernel
theorem d94_41 : decode (mm_cb 94) 41 = .ok (.iload_n 1, 1) := by decide +kernel
theorem d94_42 : decode (mm_cb 94) 42 = .ok (.iaload, 1) := by decide +kernel
theorem d94_43 : decode (mm_cb 94) 43 = .ok (.if_icmp .ge 27, 3) := by decide +kernel
theorem d94_46 : decode (mm_cb 94) 46 = .ok (.lload_n 3, 1) := by decide +kernel
theorem d94_47 : decode (mm_cb 94) 47 = .ok (.aload_n 0, 1) := by decide +kernel
theorem d94_48 : decode (mm_cb 94) 48 = .ok (.iload_n 1, 1) := by decide +kernel
theorem d94_49 : decode (mm_cb 94) 49 = .ok (.iload 5, 2) := by decide +kernel
theorem d94_51 : decode (mm_cb 94) 51 = .ok (.invokestatic 61, 3) := by decide +kernel
theorem d94_54 : decode (mm_cb 94) 54 = .ok (.iload_n 2, 1) := by decide +kernel
theorem d94_55 : decode (mm_cb 94) 55 = .ok (.iconst 1, 1) := by decide +kernel
theorem d94_56 : decode (mm_cb 94) 56 = .ok (.isub, 1) := by decide +kernel
theorem d94_57 : decode (mm_cb 94) 57 = .ok (.invokevirtual 75, 3) := by decide +kernel
theorem d94_60 : decode (mm_cb 94) 60 = .ok (.invokestatic 81, 3) := by decide +kernel
theorem d94_63 : decode (mm_cb 94) 63 = .ok (.lstore_n 3, 1) := by decide +kernel
theorem d94_64 : decode (mm_cb 94) 64 = .ok (.iinc 5 1, 3) := by decide +kernel
theorem d94_67 : decode (mm_cb 94) 67 = .ok (.goto (-32), 3) := by decide +kernel
theorem d94_70 : decode (mm_cb 94) 70 = .ok (.lload_n 3, 1) := by decide +kernel
theorem d94_71 : decode (mm_cb 94) 71 = .ok (.lreturn, 1) := by decide +kernel
theorem d95_0 : decode (mm_cb 95) 0 = .ok (.aload_n 0, 1) := by decide +kernel
theorem d95_1 : decode (mm_cb 95) 1 = .ok (.getfield 15, 3) := by decide +kernel
theorem d95_4 : decode (mm_cb 95) 4 = .ok (.ifCond .le 40, 3) := by decide +kernel
theorem d95_7 : decode (mm_cb 95) 7 = .ok (.aload_n 0, 1) := by decide +kernel
theorem d95_8 : decode (mm_cb 95) 8 = .ok (.getfield 26, 3) := by decide +kernel
theorem d95_11 : decode (mm_cb 95) 11 = .ok (.aload_n 0, 1) := by decide +kernel
theorem d95_12 : decode (mm_cb 95) 12 = .ok (.getfield 9, 3) := by decide +kernel
theorem d95_15 : decode (mm_cb 95) 15 = .ok (.aload_n 0, 1) := by decide +kernel
theorem d95_16 : decode (mm_cb 95) 16 = .ok (.getfield 15, 3) := by decide +kernel
theorem d95_19 : decode (mm_cb 95) 19 = .ok (.iconst 1, 1) := by decide +kernel
theorem d95_20 : decode (mm_cb 95) 20 = .ok (.isub, 1) := by decide +kernel
theorem d95_21 : decode (mm_cb 95) 21 = .ok (.iaload, 1) := by decide +kernel
theorem d95_22 : decode (mm_cb 95) 22 = .ok (.iload_n 1, 1) := by decide +kernel
theorem d95_23 : decode (mm_cb 95) 23 = .ok (.invokevirtual 70, 3) := by decide +kernel
theorem d95_26 : decode (mm_cb 95) 26 = .ok (.ifCond .eq 5, 3) := by decide +kernel
theorem d95_29 : decode (mm_cb 95) 29 = .ok (.iconst 1, 1) := by decide +kernel
theorem d95_30 : decode (mm_cb 95) 30 = .ok (.ireturn, 1) := by decide +kernel
theorem d95_31 : decode (mm_cb 95) 31 = .ok (.aload_n 0, 1) := by decide +kernel
theorem d95_32 : decode (mm_cb 95) 32 = .ok (.dup, 1) := by decide +kernel
theorem d95_33 : decode (mm_cb 95) 33 = .ok (.getfield 15, 3) := by decide +kernel
theorem d95_36 : decode (mm_cb 95) 36 = .ok (.iconst 1, 1) := by decide +kernel
theorem d95_37 : decode (mm_cb 95) 37 = .ok (.isub, 1) := by decide +kernel
theorem d95_38 : decode (mm_cb 95) 38 = .ok (.putfield 15, 3) := by decide +kernel
theorem d95_41 : decode (mm_cb 95) 41 = .ok (.goto (-41), 3) := by decide +kernel
theorem d95_44 : decode (mm_cb 95) 44 = .ok (.iconst 0, 1) := by decide +kernel
theorem d95_45 : decode (mm_cb 95) 45 = .ok (.ireturn, 1) := by decide +kernel
theorem d96_0 : decode (mm_cb 96) 0 = .ok (.aload_n 0, 1) := by decide +kernel
theorem d96_1 : decode (mm_cb 96) 1 = .ok (.getfield 9, 3) := by decide +kernel
theorem d96_4 : decode (mm_cb 96) 4 = .ok (.iload_n 1, 1) := by decide +kernel
theorem d96_5 : decode (mm_cb 96) 5 = .ok (.iaload, 1) := by decide +kernel
theorem d96_6 : decode (mm_cb 96) 6 = .ok (.istore_n 3, 1) := by decide +kernel
theorem d96_7 : decode (mm_cb 96) 7 = .ok (.iload_n 1, 1) := by decide +kernel
theorem d96_8 : decode (mm_cb 96) 8 = .ok (.invokestatic 72, 3) := by decide +kernel
theorem d96_11 : decode (mm_cb 96) 11 = .ok (.iload_n 2, 1) := by decide +kernel
theorem d96_12 : decode (mm_cb 96) 12 = .ok (.if_icmp .ge 7, 3) := by decide +kernel
theorem d96_15 : decode (mm_cb 96) 15 = .ok (.iconst 1, 1) := by decide +kernel
theorem d96_16 : decode (mm_cb 96) 16 = .ok (.goto 4, 3) := by decide +kernel
theorem d96_19 : decode (mm_cb 96) 19 = .ok (.iconst 0, 1) := by decide +kernel
theorem d96_20 : decode (mm_cb 96) 20 = .ok (.istore 4, 2) := by decide +kernel
theorem d96_22 : decode (mm_cb 96) 22 = .ok (.aload_n 0, 1) := by decide +kernel
theorem d96_23 : decode (mm_cb 96) 23 = .ok (.getfield 15, 3) := by decide +kernel
theorem d96_26 : decode (mm_cb 96) 26 = .ok (.iload_n 1, 1) := by decide +kernel
theorem d96_27 : decode (mm_cb 96) 27 = .ok (.iaload, 1) := by decide +kernel
theorem d96_28 : decode (mm_cb 96) 28 = .ok (.bipush (-2), 2) := by decide +kernel
theorem d96_30 : decode (mm_cb 96) 30 = .ok (.if_icmp .ne 7, 3) := by decide +kernel
theorem d96_33 : decode (mm_cb 96) 33 = .ok (.iconst 0, 1) := by decide +kernel
theorem d96_34 : decode (mm_cb 96) 34 = .ok (.goto 11, 3) := by decide +kernel
theorem d96_37 : decode (mm_cb 96) 37 = .ok (.aload_n 0, 1) := by decide +kernel
theorem d96_38 : decode (mm_cb 96) 38 = .ok (.getfield 15, 3) := by decide +kernel
theorem d96_41 : decode (mm_cb 96) 41 = .ok (.iload_n 1, 1) := by decide +kernel
theorem d96_42 : decode (mm_cb 96) 42 = .ok (.iaload, 1) := by decide +kernel
theorem d96_43 : decode (mm_cb 96) 43 = .ok (.iconst 1, 1) := by decide +kernel
theorem d96_44 : decode (mm_cb 96) 44 = .ok (.iadd, 1) := by decide +kernel
theorem d96_45 : decode (mm_cb 96) 45 = .ok (.istore 5, 2) := by decide +kernel
theorem d96_47 : decode (mm_cb 96) 47 = .ok (.iload 5, 2) := by decide +kernel
theorem d96_49 : decode (mm_cb 96) 49 = .ok (.istore 6, 2) := by decide +kernel
theorem d96_51 : decode (mm_cb 96) 51 = .ok (.iload 6, 2) := by decide +kernel
theorem d96_53 : decode (mm_cb 96) 53 = .ok (.aload_n 0, 1) := by decide +kernel
theorem d96_54 : decode (mm_cb 96) 54 = .ok (.getfield 21, 3) := by decide +kernel
theorem d96_57 : decode (mm_cb 96) 57 = .ok (.iload_n 3, 1) := by decide +kernel
theorem d96_58 : decode (mm_cb 96) 58 = .ok (.invokevirtual 37, 3) := by decide +kernel
theorem d96_61 : decode (mm_cb 96) 61 = .ok (.if_icmp .ge 39, 3) := by decide +kernel
theorem d96_64 : decode (mm_cb 96) 64 = .ok (.iload 4, 2) := by decide +kernel
theorem d96_66 : decode (mm_cb 96) 66 = .ok (.ifCond .ne 19, 3) := by decide +kernel
theorem d96_69 : decode (mm_cb 96) 69 = .ok (.aload_n 0, 1) := by decide +kernel
theorem d96_70 : decode (mm_cb 96) 70 = .ok (.getfield 21, 3) := by decide +kernel
theorem d96_73 : decode (mm_cb 96) 73 = .ok (.iload_n 3, 1) := by decide +kernel
theorem d96_74 : decode (mm_cb 96) 74 = .ok (.iload 6, 2) := by decide +kernel
theorem d96_76 : decode (mm_cb 96) 76 = .ok (.invokestatic 43, 3) := by decide +kernel
theorem d96_79 : decode (mm_cb 96) 79 = .ok (.invokevirtual 66, 3) := by decide +kernel
theorem d96_82 : decode (mm_cb 96) 82 = .ok (.ifCond .ne 12, 3) := by decide +kernel
theorem d96_85 : decode (mm_cb 96) 85 = .ok (.aload_n 0, 1) := by decide +kernel
theorem d96_86 : decode (mm_cb 96) 86 = .ok (.iload_n 1, 1) := by decide +kernel
theorem d96_87 : decode (mm_cb 96) 87 = .ok (.iload 6, 2) := by decide +kernel
theorem d96_89 : decode (mm_cb 96) 89 = .ok (.invokevirtual 53, 3) := by decide +kernel
theorem d96_92 : decode (mm_cb 96) 92 = .ok (.iconst 1, 1) := by decide +kernel
theorem d96_93 : decode (mm_cb 96) 93 = .ok (.ireturn, 1) := by decide +kernel
theorem d96_94 : decode (mm_cb 96) 94 = .ok (.iinc 6 1, 3) := by decide +kernel
theorem d96_97 : decode (mm_cb 96) 97 = .ok (.goto (-46), 3) := by decide +kernel
theorem d96_100 : decode (mm_cb 96) 100 = .ok (.aload_n 0, 1) := by decide +kernel
theorem d96_101 : decode (mm_cb 96) 101 = .ok (.iload_n 1, 1) := by decide +kernel
theorem d96_102 : decode (mm_cb 96) 102 = .ok (.invokevirtual 29, 3) := by decide +kernel
theorem d96_105 : decode (mm_cb 96) 105 = .ok (.iconst 0, 1) := by decide +kernel
theorem d96_106 : decode (mm_cb 96) 106 = .ok (.ireturn, 1) := by decide +kernel
theorem d97_0 : decode (mm_cb 97) 0 = .ok (.aload_n 0, 1) := by decide +kernel
theorem d97_1 : decode (mm_cb 97) 1 = .ok (.getfield 19, 3) := by decide +kernel
theorem d97_4 : decode (mm_cb 97) 4 = .ok (.ireturn, 1) := by decide +kernel
theorem d98_0 : decode (mm_cb 98) 0 = .ok (.aload_n 0, 1) := by decide +kernel
theorem d98_1 : decode (mm_cb 98) 1 = .ok (.getfield 22, 3) := by decide +kernel
theorem d98_4 : decode (mm_cb 98) 4 = .ok (.lreturn, 1) := by decide +kernel
theorem d99_0 : decode (mm_cb 99) 0 = .ok (.aload_n 0, 1) := by decide +kernel
theorem d99_1 : decode (mm_cb 99) 1 = .ok (.invokespecial 1, 3) := by decide +kernel
theorem d99_4 : decode (mm_cb 99) 4 = .ok (.aload_n 0, 1) := by decide +kernel
theorem d99_5 : decode (mm_cb 99) 5 = .ok (.bipush 6, 2) := by decide +kernel
theorem d99_7 : decode (mm_cb 99) 7 = .ok (.newarray .int, 2) := by decide +kernel
theorem d99_9 : decode (mm_cb 99) 9 = .ok (.putfield 7, 3) := by decide +kernel
theorem d99_12 : decode (mm_cb 99) 12 = .ok (.aload_n 0, 1) := by decide +kernel
theorem d99_13 : decode (mm_cb 99) 13 = .ok (.bipush 24, 2) := by decide +kernel
theorem d99_15 : decode (mm_cb 99) 15 = .ok (.newarray .int, 2) := by decide +kernel
theorem d99_17 : decode (mm_cb 99) 17 = .ok (.putfield 13, 3) := by decide +kernel
theorem d99_20 : decode (mm_cb 99) 20 = .ok (.aload_n 0, 1) := by decide +kernel
theorem d99_21 : decode (mm_cb 99) 21 = .ok (.bipush 72, 2) := by decide +kernel
theorem d99_23 : decode (mm_cb 99) 23 = .ok (.newarray .int, 2) := by decide +kernel
theorem d99_25 : decode (mm_cb 99) 25 = .ok (.putfield 16, 3) := by decide +kernel
theorem d99_28 : decode (mm_cb 99) 28 = .ok (.aload_n 0, 1) := by decide +kernel
theorem d99_29 : decode (mm_cb 99) 29 = .ok (.bipush 36, 2) := by decide +kernel
theorem d99_31 : decode (mm_cb 99) 31 = .ok (.newarray .long, 2) := by decide +kernel
theorem d99_33 : decode (mm_cb 99) 33 = .ok (.putfield 19, 3) := by decide +kernel
theorem d99_36 : decode (mm_cb 99) 36 = .ok (.aload_n 0, 1) := by decide +kernel
theorem d99_37 : decode (mm_cb 99) 37 = .ok (.bipush 78, 2) := by decide +kernel
theorem d99_39 : decode (mm_cb 99) 39 = .ok (.newarray .long, 2) := by decide +kernel
theorem d99_41 : decode (mm_cb 99) 41 = .ok (.putfield 23, 3) := by decide +kernel
theorem d99_44 : decode (mm_cb 99) 44 = .ok (.aload_n 0, 1) := by decide +kernel
theorem d99_45 : decode (mm_cb 99) 45 = .ok (.sipush 256, 3) := by decide +kernel
theorem d99_48 : decode (mm_cb 99) 48 = .ok (.newarray .int, 2) := by decide +kernel
theorem d99_50 : decode (mm_cb 99) 50 = .ok (.putfield 26, 3) := by decide +kernel
theorem d99_53 : decode (mm_cb 99) 53 = .ok (.aload_n 0, 1) := by decide +kernel
theorem d99_54 : decode (mm_cb 99) 54 = .ok (.sipush 256, 3) := by decide +kernel
theorem d99_57 : decode (mm_cb 99) 57 = .ok (.newarray .int, 2) := by decide +kernel
theorem d99_59 : decode (mm_cb 99) 59 = .ok (.putfield 29, 3) := by decide +kernel
theorem d99_62 : decode (mm_cb 99) 62 = .ok (.aload_n 0, 1) := by decide +kernel
theorem d99_63 : decode (mm_cb 99) 63 = .ok (.sipush 256, 3) := by decide +kernel
theorem d99_66 : decode (mm_cb 99) 66 = .ok (.newarray .int, 2) := by decide +kernel
theorem d99_68 : decode (mm_cb 99) 68 = .ok (.putfield 32, 3) := by decide +kernel
theorem d99_71 : decode (mm_cb 99) 71 = .ok (.aload_n 0, 1) := by decide +kernel
theorem d99_72 : decode (mm_cb 99) 72 = .ok (.sipush 512, 3) := by decide +kernel
theorem d99_75 : decode (mm_cb 99) 75 = .ok (.newarray .int, 2) := by decide +kernel
theorem d99_77 : decode (mm_cb 99) 77 = .ok (.putfield 35, 3) := by decide +kernel
theorem d99_80 : decode (mm_cb 99) 80 = .ok (.aload_n 0, 1) := by decide +kernel
theorem d99_81 : decode (mm_cb 99) 81 = .ok (.sipush 512, 3) := by decide +kernel
theorem d99_84 : decode (mm_cb 99) 84 = .ok (.newarray .int, 2) := by decide +kernel
theorem d99_86 : decode (mm_cb 99) 86 = .ok (.putfield 38, 3) := by decide +kernel
theorem d99_89 : decode (mm_cb 99) 89 = .ok (.aload_n 0, 1) := by decide +kernel
theorem d99_90 : decode (mm_cb 99) 90 = .ok (.sipush 512, 3) := by decide +kernel
theorem d99_93 : decode (mm_cb 99) 93 = .ok (.newarray .long, 2) := by decide +kernel
theorem d99_95 : decode (mm_cb 99) 95 = .ok (.putfield 41, 3) := by decide +kernel
theorem d99_98 : decode (mm_cb 99) 98 = .ok (.aload_n 0, 1) := by decide +kernel
theorem d99_99 : decode (mm_cb 99) 99 = .ok (.bipush 20, 2) := by decide +kernel
theorem d99_101 : decode (mm_cb 99) 101 = .ok (.newarray .int, 2) := by decide +kernel
theorem d99_103 : decode (mm_cb 99) 103 = .ok (.putfield 44, 3) := by decide +kernel
theorem d99_106 : decode (mm_cb 99) 106 = .ok (.aload_n 0, 1) := by decide +kernel
theorem d99_107 : decode (mm_cb 99) 107 = .ok (.bipush 20, 2) := by decide +kernel
theorem d99_109 : decode (mm_cb 99) 109 = .ok (.newarray .int, 2) := by decide +kernel
theorem d99_111 : decode (mm_cb 99) 111 = .ok (.putfield 47, 3) := by decide +kernel
theorem d99_114 : decode (mm_cb 99) 114 = .ok (.aload_n 0, 1) := by decide +kernel
theorem d99_115 : decode (mm_cb 99) 115 = .ok (.bipush 20, 2) := by decide +kernel
theorem d99_117 : decode (mm_cb 99) 117 = .ok (.newarray .int, 2) := by decide +kernel
theorem d99_119 : decode (mm_cb 99) 119 = .ok (.putfield 50, 3) := by decide +kernel
theorem d99_122 : decode (mm_cb 99) 122 = .ok (.aload_n 0, 1) := by decide +kernel
theorem d99_123 : decode (mm_cb 99) 123 = .ok (.bipush 20, 2) := by decide +kernel
theorem d99_125 : decode (mm_cb 99) 125 = .ok (.newarray .int, 2) := by decide +kernel
theorem d99_127 : decode (mm_cb 99) 127 = .ok (.putfield 53, 3) := by decide +kernel
theorem d99_130 : decode (mm_cb 99) 130 = .ok (.aload_n 0, 1) := by decide +kernel
theorem d99_131 : decode (mm_cb 99) 131 = .ok (.bipush 20, 2) := by decide +kernel
theorem d99_133 : decode (mm_cb 99) 133 = .ok (.newarray .int, 2) := by decide +kernel
theorem d99_135 : decode (mm_cb 99) 135 = .ok (.putfield 56, 3) := by decide +kernel
theorem d99_138 : decode (mm_cb 99) 138 = .ok (.aload_n 0, 1) := by decide +kernel
theorem d99_139 : decode (mm_cb 99) 139 = .ok (.sipush 256, 3) := by decide +kernel
theorem d99_142 : decode (mm_cb 99) 142 = .ok (.newarray .int, 2) := by decide +kernel
theorem d99_144 : decode (mm_cb 99) 144 = .ok (.putfield 59, 3) := by decide +kernel
theorem d99_147 : decode (mm_cb 99) 147 = .ok (.aload_n 0, 1) := by decide +kernel
theorem d99_148 : decode (mm_cb 99) 148 = .ok (.sipush 256, 3) := by decide +kernel
theorem d99_151 : decode (mm_cb 99) 151 = .ok (.newarray .int, 2) := by decide +kernel
theorem d99_153 : decode (mm_cb 99) 153 = .ok (.putfield 62, 3) := by decide +kernel
theorem d99_156 : decode (mm_cb 99) 156 = .ok (.return_, 1) := by decide +kernel
theorem d100_0 : decode (mm_cb 100) 0 = .ok (.aload_n 0, 1) := by decide +kernel
theorem d100_1 : decode (mm_cb 100) 1 = .ok (.getfield 65, 3) := by decide +kernel
theorem d100_4 : decode (mm_cb 100) 4 = .ok (.ireturn, 1) := by decide +kernel
theorem d101_0 : decode (mm_cb 101) 0 = .ok (.aload_n 0, 1) := by decide +kernel
theorem d101_1 : decode (mm_cb 101) 1 = .ok (.iload_n 1, 1) := by decide +kernel
theorem d101_2 : decode (mm_cb 101) 2 = .ok (.invokestatic 69, 3) := by decide +kernel
theorem d101_5 : decode (mm_cb 101) 5 = .ok (.ifCond .ne 7, 3) := by decide +kernel
theorem d101_8 : decode (mm_cb 101) 8 = .ok (.iconst 1, 1) := by decide +kernel
theorem d101_9 : decode (mm_cb 101) 9 = .ok (.goto 17, 3) := by decide +kernel
theorem d101_12 : decode (mm_cb 101) 12 = .ok (.iload_n 2, 1) := by decide +kernel
theorem d101_13 : decode (mm_cb 101) 13 = .ok (.ifCond .lt 8, 3) := by decide +kernel
theorem d101_16 : decode (mm_cb 101) 16 = .ok (.iload_n 2, 1) := by decide +kernel
theorem d101_17 : decode (mm_cb 101) 17 = .ok (.iconst 3, 1) := by decide +kernel
theorem d101_18 : decode (mm_cb 101) 18 = .ok (.if_icmp .le 7, 3) := by decide +kernel
theorem d101_21 : decode (mm_cb 101) 21 = .ok (.iconst 2, 1) := by decide +kernel
theorem d101_22 : decode (mm_cb 101) 22 = .ok (.goto 4, 3) := by decide +kernel
theorem d101_25 : decode (mm_cb 101) 25 = .ok (.iconst 0, 1) := by decide +kernel
theorem d101_26 : decode (mm_cb 101) 26 = .ok (.putfield 65, 3) := by decide +kernel
theorem d101_29 : decode (mm_cb 101) 29 = .ok (.aload_n 0, 1) := by decide +kernel
theorem d101_30 : decode (mm_cb 101) 30 = .ok (.getfield 65, 3) := by decide +kernel
theorem d101_33 : decode (mm_cb 101) 33 = .ok (.ifCond .ne 123, 3) := by decide +kernel
theorem d101_36 : decode (mm_cb 101) 36 = .ok (.iload_n 2, 1) := by decide +kernel
theorem d101_37 : decode (mm_cb 101) 37 = .ok (.iconst 1, 1) := by decide +kernel
theorem d101_38 : decode (mm_cb 101) 38 = .ok (.if_icmp .lt 10, 3) := by decide +kernel
theorem d101_41 : decode (mm_cb 101) 41 = .ok (.iload_n 3, 1) := by decide +kernel
theorem d101_42 : decode (mm_cb 101) 42 = .ok (.invokestatic 69, 3) := by decide +kernel
theorem d101_45 : decode (mm_cb 101) 45 = .ok (.ifCond .eq 33, 3) := by decide +kernel
theorem d101_48 : decode (mm_cb 101) 48 = .ok (.iload_n 2, 1) := by decide +kernel
theorem d101_49 : decode (mm_cb 101) 49 = .ok (.iconst 2, 1) := by decide +kernel
theorem d101_50 : decode (mm_cb 101) 50 = .ok (.if_icmp .lt 11, 3) := by decide +kernel
theorem d101_53 : decode (mm_cb 101) 53 = .ok (.iload 4, 2) := by decide +kernel
theorem d101_55 : decode (mm_cb 101) 55 = .ok (.invokestatic 69, 3) := by decide +kernel
theorem d101_58 : decode (mm_cb 101) 58 = .ok (.ifCond .eq 20, 3) := by decide +kernel
theorem d101_61 : decode (mm_cb 101) 61 = .ok (.iload_n 2, 1) := by decide +kernel
theorem d101_62 : decode (mm_cb 101) 62 = .ok (.iconst 3, 1) := by decide +kernel
theorem d101_63 : decode (mm_cb 101) 63 = .ok (.if_icmp .lt 11, 3) := by decide +kernel
theorem d101_66 : decode (mm_cb 101) 66 = .ok (.iload 5, 2) := by decide +kernel
theorem d101_68 : decode (mm_cb 101) 68 = .ok (.invokestatic 69, 3) := by decide +kernel
theorem d101_71 : decode (mm_cb 101) 71 = .ok (.ifCond .eq 7, 3) := by decide +kernel
theorem d101_74 : decode (mm_cb 101) 74 = .ok (.iconst 1, 1) := by decide +kernel
theorem d101_75 : decode (mm_cb 101) 75 = .ok (.goto 4, 3) := by decide +kernel
theorem d101_78 : decode (mm_cb 101) 78 = .ok (.iconst 0, 1) := by decide +kernel
theorem d101_79 : decode (mm_cb 101) 79 = .ok (.istore 6, 2) := by decide +kernel
theorem d101_81 : decode (mm_cb 101) 81 = .ok (.iload_n 2, 1) := by decide +kernel
theorem d101_82 : decode (mm_cb 101) 82 = .ok (.ifCond .gt 8, 3) := by decide +kernel
theorem d101_85 : decode (mm_cb 101) 85 = .ok (.iload_n 3, 1) := by decide +kernel
theorem d101_86 : decode (mm_cb 101) 86 = .ok (.iconst (-1), 1) := by decide +kernel
theorem d101_87 : decode (mm_cb 101) 87 = .ok (.if_icmp .ne 29, 3) := by decide +kernel
theorem d101_90 : decode (mm_cb 101) 90 = .ok (.iload_n 2, 1) := by decide +kernel
theorem d101_91 : decode (mm_cb 101) 91 = .ok (.iconst 1, 1) := by decide +kernel
theorem d101_92 : decode (mm_cb 101) 92 = .ok (.if_icmp .gt 9, 3) := by decide +kernel
theorem d101_95 : decode (mm_cb 101) 95 = .ok (.iload 4, 2) := by decide +kernel
theorem d101_97 : decode (mm_cb 101) 97 = .ok (.iconst (-1), 1) := by decide +kernel
theorem d101_98 : decode (mm_cb 101) 98 = .ok (.if_icmp .ne 18, 3) := by decide +kernel
theorem d101_101 : decode (mm_cb 101) 101 = .ok (.iload_n 2, 1) := by decide +kernel
theorem d101_102 : decode (mm_cb 101) 102 = .ok (.iconst 2, 1) := by decide +kernel
theorem d101_103 : decode (mm_cb 101) 103 = .ok (.if_icmp .gt 9, 3) := by decide +kernel
theorem d101_106 : decode (mm_cb 101) 106 = .ok (.iload 5, 2) := by decide +kernel
theorem d101_108 : decode (mm_cb 101) 108 = .ok (.iconst (-1), 1) := by decide +kernel
theorem d101_109 : decode (mm_cb 101) 109 = .ok (.if_icmp .ne 7, 3) := by decide +kernel
theorem d101_112 : decode (mm_cb 101) 112 = .ok (.iconst 1, 1) := by decide +kernel
theorem d101_113 : decode (mm_cb 101) 113 = .ok (.goto 4, 3) := by decide +kernel
theorem d101_116 : decode (mm_cb 101) 116 = .ok (.iconst 0, 1) := by decide +kernel
theorem d101_117 : decode (mm_cb 101) 117 = .ok (.istore 7, 2) := by decide +kernel
theorem d101_119 : decode (mm_cb 101) 119 = .ok (.aload_n 0, 1) := by decide +kernel
theorem d101_120 : decode (mm_cb 101) 120 = .ok (.iload 6, 2) := by decide +kernel
theorem d101_122 : decode (mm_cb 101) 122 = .ok (.ifCond .ne 7, 3) := by decide +kernel
theorem d101_125 : decode (mm_cb 101) 125 = .ok (.iconst 1, 1) := by decide +kernel
theorem d101_126 : decode (mm_cb 101) 126 = .ok (.goto 27, 3) := by decide +kernel
theorem d101_129 : decode (mm_cb 101) 129 = .ok (.iload 7, 2) := by decide +kernel
theorem d101_131 : decode (mm_cb 101) 131 = .ok (.ifCond .ne 7, 3) := by decide +kernel
theorem d101_134 : decode (mm_cb 101) 134 = .ok (.iconst 2, 1) := by decide +kernel
theorem d101_135 : decode (mm_cb 101) 135 = .ok (.goto 18, 3) := by decide +kernel
theorem d101_138 : decode (mm_cb 101) 138 = .ok (.aload_n 0, 1) := by decide +kernel
theorem d101_139 : decode (mm_cb 101) 139 = .ok (.getfield 7, 3) := by decide +kernel
theorem d101_142 : decode (mm_cb 101) 142 = .ok (.iload_n 1, 1) := by decide +kernel
theorem d101_143 : decode (mm_cb 101) 143 = .ok (.iaload, 1) := by decide +kernel
theorem d101_144 : decode (mm_cb 101) 144 = .ok (.iconst 4, 1) := by decide +kernel
theorem d101_145 : decode (mm_cb 101) 145 = .ok (.if_icmp .ne 7, 3) := by decide +kernel
theorem d101_148 : decode (mm_cb 101) 148 = .ok (.iconst 3, 1) := by decide +kernel
theorem d101_149 : decode (mm_cb 101) 149 = .ok (.goto 4, 3) := by decide +kernel
theorem d101_152 : decode (mm_cb 101) 152 = .ok (.iconst 0, 1) := by decide +kernel
theorem d101_153 : decode (mm_cb 101) 153 = .ok (.putfield 65, 3) := by decide +kernel
theorem d101_156 : decode (mm_cb 101) 156 = .ok (.aload_n 0, 1) := by decide +kernel
theorem d101_157 : decode (mm_cb 101) 157 = .ok (.getfield 65, 3) := by decide +kernel
theorem d101_160 : decode (mm_cb 101) 160 = .ok (.ifCond .le 5, 3) := by decide +kernel
theorem d101_163 : decode (mm_cb 101) 163 = .ok (.iconst 0, 1) := by decide +kernel
theorem d101_164 : decode (mm_cb 101) 164 = .ok (.ireturn, 1) := by decide +kernel
theorem d101_165 : decode (mm_cb 101) 165 = .ok (.aload_n 0, 1) := by decide +kernel
theorem d101_166 : decode (mm_cb 101) 166 = .ok (.getfield 7, 3) := by decide +kernel
theorem d101_169 : decode (mm_cb 101) 169 = .ok (.iload_n 1, 1) := by decide +kernel
theorem d101_170 : decode (mm_cb 101) 170 = .ok (.iaload, 1) := by decide +kernel
theorem d101_171 : decode (mm_cb 101) 171 = .ok (.istore 6, 2) := by decide +kernel
theorem d101_173 : decode (mm_cb 101) 173 = .ok (.aload_n 0, 1) := by decide +kernel
theorem d101_174 : decode (mm_cb 101) 174 = .ok (.getfield 13, 3) := by decide +kernel
theorem d101_177 : decode (mm_cb 101) 177 = .ok (.iconst 4, 1) := by decide +kernel
theorem d101_178 : decode (mm_cb 101) 178 = .ok (.iload_n 1, 1) := by decide +kernel
theorem d101_179 : decode (mm_cb 101) 179 = .ok (.imul, 1) := by decide +kernel
theorem d101_180 : decode (mm_cb 101) 180 = .ok (.iload 6, 2) := by decide +kernel
theorem d101_182 : decode (mm_cb 101) 182 = .ok (.iadd, 1) := by decide +kernel
theorem d101_183 : decode (mm_cb 101) 183 = .ok (.iload_n 2, 1) := by decide +kernel
theorem d101_184 : decode (mm_cb 101) 184 = .ok (.iastore, 1) := by decide +kernel
theorem d101_185 : decode (mm_cb 101) 185 = .ok (.aload_n 0, 1) := by decide +kernel
theorem d101_186 : decode (mm_cb 101) 186 = .ok (.getfield 16, 3) := by decide +kernel
theorem d101_189 : decode (mm_cb 101) 189 = .ok (.bipush 12, 2) := by decide +kernel
theorem d101_191 : decode (mm_cb 101) 191 = .ok (.iload_n 1, 1) := by decide +kernel
theorem d101_192 : decode (mm_cb 101) 192 = .ok (.imul, 1) := by decide +kernel
theorem d101_193 : decode (mm_cb 101) 193 = .ok (.iconst 3, 1) := by decide +kernel
theorem d101_194 : decode (mm_cb 101) 194 = .ok (.iload 6, 2) := by decide +kernel
theorem d101_196 : decode (mm_cb 101) 196 = .ok (.imul, 1) := by decide +kernel
theorem d101_197 : decode (mm_cb 101) 197 = .ok (.iadd, 1) := by decide +kernel
theorem d101_198 : decode (mm_cb 101) 198 = .ok (.iload_n 3, 1) := by decide +kernel
theorem d101_199 : decode (mm_cb 101) 199 = .ok (.iastore, 1) := by decide +kernel
theorem d101_200 : decode (mm_cb 101) 200 = .ok (.aload_n 0, 1) := by decide +kernel
theorem d101_201 : decode (mm_cb 101) 201 = .ok (.getfield 16, 3) := by decide +kernel
theorem d101_204 : decode (mm_cb 101) 204 = .ok (.bipush 12, 2) := by decide +kernel
theorem d101_206 : decode (mm_cb 101) 206 = .ok (.iload_n 1, 1) := by decide +kernel
theorem d101_207 : decode (mm_cb 101) 207 = .ok (.imul, 1) := by decide +kernel
theorem d101_208 : decode (mm_cb 101) 208 = .ok (.iconst 3, 1) := by decide +kernel
theorem d101_209 : decode (mm_cb 101) 209 = .ok (.iload 6, 2) := by decide +kernel
theorem d101_211 : decode (mm_cb 101) 211 = .ok (.imul, 1) := by decide +kernel
theorem d101_212 : decode (mm_cb 101) 212 = .ok (.iadd, 1) := by decide +kernel
theorem d101_213 : decode (mm_cb 101) 213 = .ok (.iconst 1, 1) := by decide +kernel
theorem d101_214 : decode (mm_cb 101) 214 = .ok (.iadd, 1) := by decide +kernel
theorem d101_215 : decode (mm_cb 101) 215 = .ok (.iload 4, 2) := by decide +kernel
theorem d101_217 : decode (mm_cb 101) 217 = .ok (.iastore, 1) := by decide +kernel
theorem d101_218 : decode (mm_cb 101) 218 = .ok (.aload_n 0, 1) := by decide +kernel
theorem d101_219 : decode (mm_cb 101) 219 = .ok (.getfield 16, 3) := by decide +kernel
theorem d101_222 : decode (mm_cb 101) 222 = .ok (.bipush 12, 2) := by decide +kernel
theorem d101_224 : decode (mm_cb 101) 224 = .ok (.iload_n 1, 1) := by decide +kernel
theorem d101_225 : decode (mm_cb 101) 225 = .ok (.imul, 1) := by decide +kernel
theorem d101_226 : decode (mm_cb 101) 226 = .ok (.iconst 3, 1) := by decide +kernel
theorem d101_227 : decode (mm_cb 101) 227 = .ok (.iload 6, 2) := by decide +kernel
theorem d101_229 : decode (mm_cb 101) 229 = .ok (.imul, 1) := by decide +kernel
theorem d101_230 : decode (mm_cb 101) 230 = .ok (.iadd, 1) := by decide +kernel
theorem d101_231 : decode (mm_cb 101) 231 = .ok (.iconst 2, 1) := by decide +kernel
theorem d101_232 : decode (mm_cb 101) 232 = .ok (.iadd, 1) := by decide +kernel
theorem d101_233 : decode (mm_cb 101) 233 = .ok (.iload 5, 2) := by decide +kernel
theorem d101_235 : decode (mm_cb 101) 235 = .ok (.iastore, 1) := by decide +kernel
theorem d101_236 : decode (mm_cb 101) 236 = .ok (.aload_n 0, 1) := by decide +kernel
theorem d101_237 : decode (mm_cb 101) 237 = .ok (.getfield 7, 3) := by decide +kernel
theorem d101_240 : decode (mm_cb 101) 240 = .ok (.iload_n 1, 1) := by decide +kernel
theorem d101_241 : decode (mm_cb 101) 241 = .ok (.dup2, 1) := by decide +kernel
theorem d101_242 : decode (mm_cb 101) 242 = .ok (.iaload, 1) := by decide +kernel
theorem d101_243 : decode (mm_cb 101) 243 = .ok (.iconst 1, 1) := by decide +kernel
theorem d101_244 : decode (mm_cb 101) 244 = .ok (.iadd, 1) := by decide +kernel
theorem d101_245 : decode (mm_cb 101) 245 = .ok (.iastore, 1) := by decide +kernel
theorem d101_246 : decode (mm_cb 101) 246 = .ok (.iload 6, 2) := by decide +kernel
theorem d101_248 : decode (mm_cb 101) 248 = .ok (.ireturn, 1) := by decide +kernel
theorem d102_0 : decode (mm_cb 102) 0 = .ok (.iload_n 0, 1) := by decide +kernel
theorem d102_1 : decode (mm_cb 102) 1 = .ok (.ifCond .lt 12, 3) := by decide +kernel
theorem d102_4 : decode (mm_cb 102) 4 = .ok (.iload_n 0, 1) := by decide +kernel
theorem d102_5 : decode (mm_cb 102) 5 = .ok (.iconst 5, 1) := by decide +kernel
theorem d102_6 : decode (mm_cb 102) 6 = .ok (.if_icmp .gt 7, 3) := by decide +kernel
theorem d102_9 : decode (mm_cb 102) 9 = .ok (.iconst 1, 1) := by decide +kernel
theorem d102_10 : decode (mm_cb 102) 10 = .ok (.goto 4, 3) := by decide +kernel
theorem d102_13 : decode (mm_cb 102) 13 = .ok (.iconst 0, 1) := by decide +kernel
theorem d102_14 : decode (mm_cb 102) 14 = .ok (.ireturn, 1) := by decide +kernel
theorem d103_0 : decode (mm_cb 103) 0 = .ok (.aload_n 0, 1) := by decide +kernel
theorem d103_1 : decode (mm_cb 103) 1 = .ok (.iload_n 1, 1) := by decide +kernel
theorem d103_2 : decode (mm_cb 103) 2 = .ok (.iload_n 2, 1) := by decide +kernel
theorem d103_3 : decode (mm_cb 103) 3 = .ok (.invokestatic 101, 3) := by decide +kernel
theorem d103_6 : decode (mm_cb 103) 6 = .ok (.putfield 65, 3) := by decide +kernel
theorem d103_9 : decode (mm_cb 103) 9 = .ok (.aload_n 0, 1) := by decide +kernel
theorem d103_10 : decode (mm_cb 103) 10 = .ok (.getfield 65, 3) := by decide +kernel
theorem d103_13 : decode (mm_cb 103) 13 = .ok (.ifCond .le 5, 3) := by decide +kernel
theorem d103_16 : decode (mm_cb 103) 16 = .ok (.lconst 0, 1) := by decide +kernel
theorem d103_17 : decode (mm_cb 103) 17 = .ok (.lreturn, 1) := by decide +kernel
theorem d103_18 : decode (mm_cb 103) 18 = .ok (.aload_n 0, 1) := by decide +kernel
theorem d103_19 : decode (mm_cb 103) 19 = .ok (.invokevirtual 105, 3) := by decide +kernel
theorem d103_22 : decode (mm_cb 103) 22 = .ok (.aload_n 0, 1) := by decide +kernel
theorem d103_23 : decode (mm_cb 103) 23 = .ok (.getfield 19, 3) := by decide +kernel
theorem d103_26 : decode (mm_cb 103) 26 = .ok (.bipush 6, 2) := by decide +kernel
theorem d103_28 : decode (mm_cb 103) 28 = .ok (.iload_n 1, 1) := by decide +kernel
theorem d103_29 : decode (mm_cb 103) 29 = .ok (.imul, 1) := by decide +kernel
theorem d103_30 : decode (mm_cb 103) 30 = .ok (.iload_n 2, 1) := by decide +kernel
theorem d103_31 : decode (mm_cb 103) 31 = .ok (.iadd, 1) := by decide +kernel
theorem d103_32 : decode (mm_cb 103) 32 = .ok (.iconst 1, 1) := by decide +kernel
theorem d103_33 : decode (mm_cb 103) 33 = .ok (.iadd, 1) := by decide +kernel
theorem d103_34 : decode (mm_cb 103) 34 = .ok (.laload, 1) := by decide +kernel
theorem d103_35 : decode (mm_cb 103) 35 = .ok (.lreturn, 1) := by decide +kernel
theorem d104_0 : decode (mm_cb 104) 0 = .ok (.iload_n 0, 1) := by decide +kernel
theorem d104_1 : decode (mm_cb 104) 1 = .ok (.invokestatic 69, 3) := by decide +kernel
theorem d104_4 : decode (mm_cb 104) 4 = .ok (.ifCond .ne 7, 3) := by decide +kernel
theorem d104_7 : decode (mm_cb 104) 7 = .ok (.iconst 1, 1) := by decide +kernel
theorem d104_8 : decode (mm_cb 104) 8 = .ok (.goto 17, 3) := by decide +kernel
theorem d104_11 : decode (mm_cb 104) 11 = .ok (.iload_n 1, 1) := by decide +kernel
theorem d104_12 : decode (mm_cb 104) 12 = .ok (.ifCond .lt 8, 3) := by decide +kernel
theorem d104_15 : decode (mm_cb 104) 15 = .ok (.iload_n 1, 1) := by decide +kernel
theorem d104_16 : decode (mm_cb 104) 16 = .ok (.iconst 4, 1) := by decide +kernel
theorem d104_17 : decode (mm_cb 104) 17 = .ok (.if_icmp .le 7, 3) := by decide +kernel
theorem d104_20 : decode (mm_cb 104) 20 = .ok (.iconst 2, 1) := by decide +kernel
theorem d104_21 : decode (mm_cb 104) 21 = .ok (.goto 4, 3) := by decide +kernel
theorem d104_24 : decode (mm_cb 104) 24 = .ok (.iconst 0, 1) := by decide +kernel
theorem d104_25 : decode (mm_cb 104) 25 = .ok (.ireturn, 1) := by decide +kernel
theorem d105_0 : decode (mm_cb 105) 0 = .ok (.iconst 0, 1) := by decide +kernel
theorem d105_1 : decode (mm_cb 105) 1 = .ok (.istore_n 1, 1) := by decide +kernel
theorem d105_2 : decode (mm_cb 105) 2 = .ok (.iload_n 1, 1) := by decide +kernel
theorem d105_3 : decode (mm_cb 105) 3 = .ok (.bipush 6, 2) := by decide +kernel
theorem d105_5 : decode (mm_cb 105) 5 = .ok (.if_icmp .ge 19, 3) := by decide +kernel
theorem d105_8 : decode (mm_cb 105) 8 = .ok (.aload_n 0, 1) := by decide +kernel
theorem d105_9 : decode (mm_cb 105) 9 = .ok (.getfield 19, 3) := by decide +kernel
theorem d105_12 : decode (mm_cb 105) 12 = .ok (.bipush 6, 2) := by decide +kernel
theorem d105_14 : decode (mm_cb 105) 14 = .ok (.iload_n 1, 1) := by decide +kernel
theorem d105_15 : decode (mm_cb 105) 15 = .ok (.imul, 1) := by decide +kernel
theorem d105_16 : decode (mm_cb 105) 16 = .ok (.lconst 0, 1) := by decide +kernel
theorem d105_17 : decode (mm_cb 105) 17 = .ok (.lastore, 1) := by decide +kernel
theorem d105_18 : decode (mm_cb 105) 18 = .ok (.iinc 1 1, 3) := by decide +kernel
theorem d105_21 : decode (mm_cb 105) 21 = .ok (.goto (-19), 3) := by decide +kernel
theorem d105_24 : decode (mm_cb 105) 24 = .ok (.iconst 0, 1) := by decide +kernel
theorem d105_25 : decode (mm_cb 105) 25 = .ok (.istore_n 1, 1) := by decide +kernel
theorem d105_26 : decode (mm_cb 105) 26 = .ok (.iload_n 1, 1) := by decide +kernel
theorem d105_27 : decode (mm_cb 105) 27 = .ok (.iconst 5, 1) := by decide +kernel
theorem d105_28 : decode (mm_cb 105) 28 = .ok (.if_icmp .ge 72, 3) := by decide +kernel
theorem d105_31 : decode (mm_cb 105) 31 = .ok (.iconst 0, 1) := by decide +kernel
theorem d105_32 : decode (mm_cb 105) 32 = .ok (.istore_n 2, 1) := by decide +kernel
theorem d105_33 : decode (mm_cb 105) 33 = .ok (.iload_n 2, 1) := by decide +kernel
theorem d105_34 : decode (mm_cb 105) 34 = .ok (.bipush 6, 2) := by decide +kernel
theorem d105_36 : decode (mm_cb 105) 36 = .ok (.if_icmp .ge 58, 3) := by decide +kernel
theorem d105_39 : decode (mm_cb 105) 39 = .ok (.lconst 0, 1) := by decide +kernel
theorem d105_40 : decode (mm_cb 105) 40 = .ok (.lstore_n 3, 1) := by decide +kernel
theorem d105_41 : decode (mm_cb 105) 41 = .ok (.iconst 0, 1) := by decide +kernel
theorem d105_42 : decode (mm_cb 105) 42 = .ok (.istore 5, 2) := by decide +kernel
theorem d105_44 : decode (mm_cb 105) 44 = .ok (.iload 5, 2) := by decide +kernel
theorem d105_46 : decode (mm_cb 105) 46 = .ok (.aload_n 0, 1) := by decide +kernel
theorem d105_47 : decode (mm_cb 105) 47 = .ok (.getfield 7, 3) := by decide +kernel
theorem d105_50 : decode (mm_cb 105) 50 = .ok (.iload_n 2, 1) := by decide +kernel
theorem d105_51 : decode (mm_cb 105) 51 = .ok (.iaload, 1) := by decide +kernel
theorem d105_52 : decode (mm_cb 105) 52 = .ok (.if_icmp .ge 22, 3) := by decide +kernel
theorem d105_55 : decode (mm_cb 105) 55 = .ok (.lload_n 3, 1) := by decide +kernel
theorem d105_56 : decode (mm_cb 105) 56 = .ok (.aload_n 0, 1) := by decide +kernel
theorem d105_57 : decode (mm_cb 105) 57 = .ok (.iload_n 2, 1) := by decide +kernel
theorem d105_58 : decode (mm_cb 105) 58 = .ok (.iload 5, 2) := by decide +kernel
theorem d105_60 : decode (mm_cb 105) 60 = .ok (.iload_n 1, 1) := by decide +kernel
theorem d105_61 : decode (mm_cb 105) 61 = .ok (.invokevirtual 83, 3) := by decide +kernel
theorem d105_64 : decode (mm_cb 105) 64 = .ok (.invokestatic 87, 3) := by decide +kernel
theorem d105_67 : decode (mm_cb 105) 67 = .ok (.lstore_n 3, 1) := by decide +kernel
theorem d105_68 : decode (mm_cb 105) 68 = .ok (.iinc 5 1, 3) := by decide +kernel
theorem d105_71 : decode (mm_cb 105) 71 = .ok (.goto (-27), 3) := by decide +kernel
theorem d105_74 : decode (mm_cb 105) 74 = .ok (.aload_n 0, 1) := by decide +kernel
theorem d105_75 : decode (mm_cb 105) 75 = .ok (.getfield 19, 3) := by decide +kernel
theorem d105_78 : decode (mm_cb 105) 78 = .ok (.bipush 6, 2) := by decide +kernel
theorem d105_80 : decode (mm_cb 105) 80 = .ok (.iload_n 2, 1) := by decide +kernel
theorem d105_81 : decode (mm_cb 105) 81 = .ok (.imul, 1) := by decide +kernel
theorem d105_82 : decode (mm_cb 105) 82 = .ok (.iload_n 1, 1) := by decide +kernel
theorem d105_83 : decode (mm_cb 105) 83 = .ok (.iadd, 1) := by decide +kernel
theorem d105_84 : decode (mm_cb 105) 84 = .ok (.iconst 1, 1) := by decide +kernel
theorem d105_85 : decode (mm_cb 105) 85 = .ok (.iadd, 1) := by decide +kernel
theorem d105_86 : decode (mm_cb 105) 86 = .ok (.lload_n 3, 1) := by decide +kernel
theorem d105_87 : decode (mm_cb 105) 87 = .ok (.lastore, 1) := by decide +kernel
theorem d105_88 : decode (mm_cb 105) 88 = .ok (.iinc 2 1, 3) := by decide +kernel
theorem d105_91 : decode (mm_cb 105) 91 = .ok (.goto (-58), 3) := by decide +kernel
theorem d105_94 : decode (mm_cb 105) 94 = .ok (.iinc 1 1, 3) := by decide +kernel
theorem d105_97 : decode (mm_cb 105) 97 = .ok (.goto (-71), 3) := by decide +kernel
theorem d105_100 : decode (mm_cb 105) 100 = .ok (.return_, 1) := by decide +kernel
theorem d106_0 : decode (mm_cb 106) 0 = .ok (.lconst 1, 1) := by decide +kernel
theorem d106_1 : decode (mm_cb 106) 1 = .ok (.lstore 4, 2) := by decide +kernel
theorem d106_3 : decode (mm_cb 106) 3 = .ok (.iconst 0, 1) := by decide +kernel
theorem d106_4 : decode (mm_cb 106) 4 = .ok (.istore 6, 2) := by decide +kernel
theorem d106_6 : decode (mm_cb 106) 6 = .ok (.iload 6, 2) := by decide +kernel
theorem d106_8 : decode (mm_cb 106) 8 = .ok (.aload_n 0, 1) := by decide +kernel
theorem d106_9 : decode (mm_cb 106) 9 = .ok (.getfield 13, 3) := by decide +kernel
theorem d106_12 : decode (mm_cb 106) 12 = .ok (.iconst 4, 1) := by decide +kernel
theorem d106_13 : decode (mm_cb 106) 13 = .ok (.iload_n 1, 1) := by decide +kernel
theorem d106_14 : decode (mm_cb 106) 14 = .ok (.imul, 1) := by decide +kernel
theorem d106_15 : decode (mm_cb 106) 15 = .ok (.iload_n 2, 1) := by decide +kernel
theorem d106_16 : decode (mm_cb 106) 16 = .ok (.iadd, 1) := by decide +kernel
theorem d106_17 : decode (mm_cb 106) 17 = .ok (.iaload, 1) := by decide +kernel
theorem d106_18 : decode (mm_cb 106) 18 = .ok (.if_icmp .ge 34, 3) := by decide +kernel
theorem d106_21 : decode (mm_cb 106) 21 = .ok (.lload 4, 2) := by decide +kernel
theorem d106_23 : decode (mm_cb 106) 23 = .ok (.aload_n 0, 1) := by decide +kernel
theorem d106_24 : decode (mm_cb 106) 24 = .ok (.getfield 19, 3) := by decide +kernel
theorem d106_27 : decode (mm_cb 106) 27 = .ok (.bipush 6, 2) := by decide +kernel
theorem d106_29 : decode (mm_cb 106) 29 = .ok (.aload_n 0, 1) := by decide +kernel
theorem d106_30 : decode (mm_cb 106) 30 = .ok (.iload_n 1, 1) := by decide +kernel
theorem d106_31 : decode (mm_cb 106) 31 = .ok (.iload_n 2, 1) := by decide +kernel
theorem d106_32 : decode (mm_cb 106) 32 = .ok (.iload 6, 2) := by decide +kernel
theorem d106_34 : decode (mm_cb 106) 34 = .ok (.invokevirtual 75, 3) := by decide +kernel
theorem d106_37 : decode (mm_cb 106) 37 = .ok (.imul, 1) := by decide +kernel
theorem d106_38 : decode (mm_cb 106) 38 = .ok (.iload_n 3, 1) := by decide +kernel
theorem d106_39 : decode (mm_cb 106) 39 = .ok (.iadd, 1) := by decide +kernel
theorem d106_40 : decode (mm_cb 106) 40 = .ok (.laload, 1) := by decide +kernel
theorem d106_41 : decode (mm_cb 106) 41 = .ok (.invokestatic 79, 3) := by decide +kernel
theorem d106_44 : decode (mm_cb 106) 44 = .ok (.lstore 4, 2) := by decide +kernel
theorem d106_46 : decode (mm_cb 106) 46 = .ok (.iinc 6 1, 3) := by decide +kernel
theorem d106_49 : decode (mm_cb 106) 49 = .ok (.goto (-43), 3) := by decide +kernel
theorem d106_52 : decode (mm_cb 106) 52 = .ok (.lload 4, 2) := by decide +kernel
theorem d106_54 : decode (mm_cb 106) 54 = .ok (.lreturn, 1) := by decide +kernel
theorem d107_0 : decode (mm_cb 107) 0 = .ok (.aload_n 0, 1) := by decide +kernel
theorem d107_1 : decode (mm_cb 107) 1 = .ok (.getfield 16, 3) := by decide +kernel
theorem d107_4 : decode (mm_cb 107) 4 = .ok (.bipush 12, 2) := by decide +kernel
theorem d107_6 : decode (mm_cb 107) 6 = .ok (.iload_n 1, 1) := by decide +kernel
theorem d107_7 : decode (mm_cb 107) 7 = .ok (.imul, 1) := by decide +kernel
theorem d107_8 : decode (mm_cb 107) 8 = .ok (.iconst 3, 1) := by decide +kernel
theorem d107_9 : decode (mm_cb 107) 9 = .ok (.iload_n 2, 1) := by decide +kernel
theorem d107_10 : decode (mm_cb 107) 10 = .ok (.imul, 1) := by decide +kernel
theorem d107_11 : decode (mm_cb 107) 11 = .ok (.iadd, 1) := by decide +kernel
theorem d107_12 : decode (mm_cb 107) 12 = .ok (.iload_n 3, 1) := by decide +kernel
theorem d107_13 : decode (mm_cb 107) 13 = .ok (.iadd, 1) := by decide +kernel
theorem d107_14 : decode (mm_cb 107) 14 = .ok (.iaload, 1) := by decide +kernel
theorem d107_15 : decode (mm_cb 107) 15 = .ok (.ireturn, 1) := by decide +kernel
theorem d108_0 : decode (mm_cb 108) 0 = .ok (.lload_n 0, 1) := by decide +kernel
theorem d108_1 : decode (mm_cb 108) 1 = .ok (.lconst 0, 1) := by decide +kernel
theorem d108_2 : decode (mm_cb 108) 2 = .ok (.lcmp, 1) := by decide +kernel
theorem d108_3 : decode (mm_cb 108) 3 = .ok (.ifCond .eq 9, 3) := by decide +kernel
theorem d108_6 : decode (mm_cb 108) 6 = .ok (.lload_n 2, 1) := by decide +kernel
theorem d108_7 : decode (mm_cb 108) 7 = .ok (.lconst 0, 1) := by decide +kernel
theorem d108_8 : decode (mm_cb 108) 8 = .ok (.lcmp, 1) := by decide +kernel
theorem d108_9 : decode (mm_cb 108) 9 = .ok (.ifCond .ne 5, 3) := by decide +kernel
theorem d108_12 : decode (mm_cb 108) 12 = .ok (.lconst 0, 1) := by decide +kernel
theorem d108_13 : decode (mm_cb 108) 13 = .ok (.lreturn, 1) := by decide +kernel
theorem d108_14 : decode (mm_cb 108) 14 = .ok (.lload_n 0, 1) := by decide +kernel
theorem d108_15 : decode (mm_cb 108) 15 = .ok (.ldc2_w 73, 3) := by decide +kernel
theorem d108_18 : decode (mm_cb 108) 18 = .ok (.lload_n 2, 1) := by decide +kernel
theorem d108_19 : decode (mm_cb 108) 19 = .ok (.ldiv, 1) := by decide +kernel
theorem d108_20 : decode (mm_cb 108) 20 = .ok (.lcmp, 1) := by decide +kernel
theorem d108_21 : decode (mm_cb 108) 21 = .ok (.ifCond .le 9, 3) := by decide +kernel
theorem d108_24 : decode (mm_cb 108) 24 = .ok (.ldc2_w 73, 3) := by decide +kernel
theorem d108_27 : decode (mm_cb 108) 27 = .ok (.goto 6, 3) := by decide +kernel
theorem d108_30 : decode (mm_cb 108) 30 = .ok (.lload_n 0, 1) := by decide +kernel
theorem d108_31 : decode (mm_cb 108) 31 = .ok (.lload_n 2, 1) := by decide +kernel
theorem d108_32 : decode (mm_cb 108) 32 = .ok (.lmul, 1) := by decide +kernel
