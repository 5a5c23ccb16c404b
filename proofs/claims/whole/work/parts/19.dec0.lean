/-! ===== decoded ===== -/
theorem d0_0 : decode (mm_cb 0) 0 = .ok (.aload_n 0, 1) := by decide +kernel
theorem d0_1 : decode (mm_cb 0) 1 = .ok (.invokespecial 1, 3) := by decide +kernel
theorem d0_4 : decode (mm_cb 0) 4 = .ok (.aload_n 0, 1) := by decide +kernel
theorem d0_5 : decode (mm_cb 0) 5 = .ok (.new 7, 3) := by decide +kernel
theorem d0_8 : decode (mm_cb 0) 8 = .ok (.dup, 1) := by decide +kernel
theorem d0_9 : decode (mm_cb 0) 9 = .ok (.invokespecial 9, 3) := by decide +kernel
theorem d0_12 : decode (mm_cb 0) 12 = .ok (.putfield 10, 3) := by decide +kernel
theorem d0_15 : decode (mm_cb 0) 15 = .ok (.aload_n 0, 1) := by decide +kernel
theorem d0_16 : decode (mm_cb 0) 16 = .ok (.new 16, 3) := by decide +kernel
theorem d0_19 : decode (mm_cb 0) 19 = .ok (.dup, 1) := by decide +kernel
theorem d0_20 : decode (mm_cb 0) 20 = .ok (.aload_n 0, 1) := by decide +kernel
theorem d0_21 : decode (mm_cb 0) 21 = .ok (.getfield 10, 3) := by decide +kernel
theorem d0_24 : decode (mm_cb 0) 24 = .ok (.invokespecial 18, 3) := by decide +kernel
theorem d0_27 : decode (mm_cb 0) 27 = .ok (.putfield 21, 3) := by decide +kernel
theorem d0_30 : decode (mm_cb 0) 30 = .ok (.aload_n 0, 1) := by decide +kernel
theorem d0_31 : decode (mm_cb 0) 31 = .ok (.new 25, 3) := by decide +kernel
theorem d0_34 : decode (mm_cb 0) 34 = .ok (.dup, 1) := by decide +kernel
theorem d0_35 : decode (mm_cb 0) 35 = .ok (.aload_n 0, 1) := by decide +kernel
theorem d0_36 : decode (mm_cb 0) 36 = .ok (.getfield 10, 3) := by decide +kernel
theorem d0_39 : decode (mm_cb 0) 39 = .ok (.invokespecial 27, 3) := by decide +kernel
theorem d0_42 : decode (mm_cb 0) 42 = .ok (.putfield 28, 3) := by decide +kernel
theorem d0_45 : decode (mm_cb 0) 45 = .ok (.aload_n 0, 1) := by decide +kernel
theorem d0_46 : decode (mm_cb 0) 46 = .ok (.new 32, 3) := by decide +kernel
theorem d0_49 : decode (mm_cb 0) 49 = .ok (.dup, 1) := by decide +kernel
theorem d0_50 : decode (mm_cb 0) 50 = .ok (.invokespecial 34, 3) := by decide +kernel
theorem d0_53 : decode (mm_cb 0) 53 = .ok (.putfield 35, 3) := by decide +kernel
theorem d0_56 : decode (mm_cb 0) 56 = .ok (.aload_n 0, 1) := by decide +kernel
theorem d0_57 : decode (mm_cb 0) 57 = .ok (.new 39, 3) := by decide +kernel
theorem d0_60 : decode (mm_cb 0) 60 = .ok (.dup, 1) := by decide +kernel
theorem d0_61 : decode (mm_cb 0) 61 = .ok (.aload_n 0, 1) := by decide +kernel
theorem d0_62 : decode (mm_cb 0) 62 = .ok (.getfield 10, 3) := by decide +kernel
theorem d0_65 : decode (mm_cb 0) 65 = .ok (.aload_n 0, 1) := by decide +kernel
theorem d0_66 : decode (mm_cb 0) 66 = .ok (.getfield 21, 3) := by decide +kernel
theorem d0_69 : decode (mm_cb 0) 69 = .ok (.invokespecial 41, 3) := by decide +kernel
theorem d0_72 : decode (mm_cb 0) 72 = .ok (.putfield 44, 3) := by decide +kernel
theorem d0_75 : decode (mm_cb 0) 75 = .ok (.aload_n 0, 1) := by decide +kernel
theorem d0_76 : decode (mm_cb 0) 76 = .ok (.new 48, 3) := by decide +kernel
theorem d0_79 : decode (mm_cb 0) 79 = .ok (.dup, 1) := by decide +kernel
theorem d0_80 : decode (mm_cb 0) 80 = .ok (.aload_n 0, 1) := by decide +kernel
theorem d0_81 : decode (mm_cb 0) 81 = .ok (.getfield 10, 3) := by decide +kernel
theorem d0_84 : decode (mm_cb 0) 84 = .ok (.aload_n 0, 1) := by decide +kernel
theorem d0_85 : decode (mm_cb 0) 85 = .ok (.getfield 28, 3) := by decide +kernel
theorem d0_88 : decode (mm_cb 0) 88 = .ok (.aload_n 0, 1) := by decide +kernel
theorem d0_89 : decode (mm_cb 0) 89 = .ok (.getfield 35, 3) := by decide +kernel
theorem d0_92 : decode (mm_cb 0) 92 = .ok (.invokespecial 50, 3) := by decide +kernel
theorem d0_95 : decode (mm_cb 0) 95 = .ok (.putfield 53, 3) := by decide +kernel
theorem d0_98 : decode (mm_cb 0) 98 = .ok (.aload_n 0, 1) := by decide +kernel
theorem d0_99 : decode (mm_cb 0) 99 = .ok (.new 57, 3) := by decide +kernel
theorem d0_102 : decode (mm_cb 0) 102 = .ok (.dup, 1) := by decide +kernel
theorem d0_103 : decode (mm_cb 0) 103 = .ok (.invokespecial 59, 3) := by decide +kernel
theorem d0_106 : decode (mm_cb 0) 106 = .ok (.putfield 60, 3) := by decide +kernel
theorem d0_109 : decode (mm_cb 0) 109 = .ok (.aload_n 0, 1) := by decide +kernel
theorem d0_110 : decode (mm_cb 0) 110 = .ok (.new 64, 3) := by decide +kernel
theorem d0_113 : decode (mm_cb 0) 113 = .ok (.dup, 1) := by decide +kernel
theorem d0_114 : decode (mm_cb 0) 114 = .ok (.aload_n 0, 1) := by decide +kernel
theorem d0_115 : decode (mm_cb 0) 115 = .ok (.getfield 44, 3) := by decide +kernel
theorem d0_118 : decode (mm_cb 0) 118 = .ok (.aload_n 0, 1) := by decide +kernel
theorem d0_119 : decode (mm_cb 0) 119 = .ok (.getfield 60, 3) := by decide +kernel
theorem d0_122 : decode (mm_cb 0) 122 = .ok (.invokespecial 66, 3) := by decide +kernel
theorem d0_125 : decode (mm_cb 0) 125 = .ok (.putfield 69, 3) := by decide +kernel
theorem d0_128 : decode (mm_cb 0) 128 = .ok (.aload_n 0, 1) := by decide +kernel
theorem d0_129 : decode (mm_cb 0) 129 = .ok (.iconst 0, 1) := by decide +kernel
theorem d0_130 : decode (mm_cb 0) 130 = .ok (.putfield 73, 3) := by decide +kernel
theorem d0_133 : decode (mm_cb 0) 133 = .ok (.aload_n 0, 1) := by decide +kernel
theorem d0_134 : decode (mm_cb 0) 134 = .ok (.lconst 0, 1) := by decide +kernel
theorem d0_135 : decode (mm_cb 0) 135 = .ok (.putfield 77, 3) := by decide +kernel
theorem d0_138 : decode (mm_cb 0) 138 = .ok (.return_, 1) := by decide +kernel
theorem d1_0 : decode (mm_cb 1) 0 = .ok (.aload_n 0, 1) := by decide +kernel
theorem d1_1 : decode (mm_cb 1) 1 = .ok (.invokespecial 3, 3) := by decide +kernel
theorem d1_4 : decode (mm_cb 1) 4 = .ok (.aload_n 0, 1) := by decide +kernel
theorem d1_5 : decode (mm_cb 1) 5 = .ok (.bipush 6, 2) := by decide +kernel
theorem d1_7 : decode (mm_cb 1) 7 = .ok (.newarray .int, 2) := by decide +kernel
theorem d1_9 : decode (mm_cb 1) 9 = .ok (.putfield 9, 3) := by decide +kernel
theorem d1_12 : decode (mm_cb 1) 12 = .ok (.aload_n 0, 1) := by decide +kernel
theorem d1_13 : decode (mm_cb 1) 13 = .ok (.bipush 24, 2) := by decide +kernel
theorem d1_15 : decode (mm_cb 1) 15 = .ok (.newarray .int, 2) := by decide +kernel
theorem d1_17 : decode (mm_cb 1) 17 = .ok (.putfield 15, 3) := by decide +kernel
theorem d1_20 : decode (mm_cb 1) 20 = .ok (.aload_n 0, 1) := by decide +kernel
theorem d1_21 : decode (mm_cb 1) 21 = .ok (.bipush 72, 2) := by decide +kernel
theorem d1_23 : decode (mm_cb 1) 23 = .ok (.newarray .int, 2) := by decide +kernel
theorem d1_25 : decode (mm_cb 1) 25 = .ok (.putfield 18, 3) := by decide +kernel
theorem d1_28 : decode (mm_cb 1) 28 = .ok (.return_, 1) := by decide +kernel
theorem d2_0 : decode (mm_cb 2) 0 = .ok (.aload_n 0, 1) := by decide +kernel
theorem d2_1 : decode (mm_cb 2) 1 = .ok (.invokespecial 3, 3) := by decide +kernel
theorem d2_4 : decode (mm_cb 2) 4 = .ok (.aload_n 0, 1) := by decide +kernel
theorem d2_5 : decode (mm_cb 2) 5 = .ok (.bipush 30, 2) := by decide +kernel
theorem d2_7 : decode (mm_cb 2) 7 = .ok (.newarray .long, 2) := by decide +kernel
theorem d2_9 : decode (mm_cb 2) 9 = .ok (.putfield 11, 3) := by decide +kernel
theorem d2_12 : decode (mm_cb 2) 12 = .ok (.aload_n 0, 1) := by decide +kernel
theorem d2_13 : decode (mm_cb 2) 13 = .ok (.bipush 120, 2) := by decide +kernel
theorem d2_15 : decode (mm_cb 2) 15 = .ok (.newarray .long, 2) := by decide +kernel
theorem d2_17 : decode (mm_cb 2) 17 = .ok (.putfield 15, 3) := by decide +kernel
theorem d2_20 : decode (mm_cb 2) 20 = .ok (.aload_n 0, 1) := by decide +kernel
theorem d2_21 : decode (mm_cb 2) 21 = .ok (.aload_n 1, 1) := by decide +kernel
theorem d2_22 : decode (mm_cb 2) 22 = .ok (.putfield 18, 3) := by decide +kernel
theorem d2_25 : decode (mm_cb 2) 25 = .ok (.return_, 1) := by decide +kernel
theorem d3_0 : decode (mm_cb 3) 0 = .ok (.aload_n 0, 1) := by decide +kernel
theorem d3_1 : decode (mm_cb 3) 1 = .ok (.invokespecial 3, 3) := by decide +kernel
theorem d3_4 : decode (mm_cb 3) 4 = .ok (.aload_n 0, 1) := by decide +kernel
theorem d3_5 : decode (mm_cb 3) 5 = .ok (.bipush 78, 2) := by decide +kernel
theorem d3_7 : decode (mm_cb 3) 7 = .ok (.newarray .long, 2) := by decide +kernel
theorem d3_9 : decode (mm_cb 3) 9 = .ok (.putfield 11, 3) := by decide +kernel
theorem d3_12 : decode (mm_cb 3) 12 = .ok (.aload_n 0, 1) := by decide +kernel
theorem d3_13 : decode (mm_cb 3) 13 = .ok (.sipush 1248, 3) := by decide +kernel
theorem d3_16 : decode (mm_cb 3) 16 = .ok (.newarray .long, 2) := by decide +kernel
theorem d3_18 : decode (mm_cb 3) 18 = .ok (.putfield 15, 3) := by decide +kernel
theorem d3_21 : decode (mm_cb 3) 21 = .ok (.aload_n 0, 1) := by decide +kernel
theorem d3_22 : decode (mm_cb 3) 22 = .ok (.aload_n 1, 1) := by decide +kernel
theorem d3_23 : decode (mm_cb 3) 23 = .ok (.putfield 18, 3) := by decide +kernel
theorem d3_26 : decode (mm_cb 3) 26 = .ok (.return_, 1) := by decide +kernel
theorem d4_0 : decode (mm_cb 4) 0 = .ok (.aload_n 0, 1) := by decide +kernel
theorem d4_1 : decode (mm_cb 4) 1 = .ok (.invokespecial 3, 3) := by decide +kernel
theorem d4_4 : decode (mm_cb 4) 4 = .ok (.aload_n 0, 1) := by decide +kernel
theorem d4_5 : decode (mm_cb 4) 5 = .ok (.bipush 121, 2) := by decide +kernel
theorem d4_7 : decode (mm_cb 4) 7 = .ok (.newarray .int, 2) := by decide +kernel
theorem d4_9 : decode (mm_cb 4) 9 = .ok (.putfield 9, 3) := by decide +kernel
theorem d4_12 : decode (mm_cb 4) 12 = .ok (.aload_n 0, 1) := by decide +kernel
theorem d4_13 : decode (mm_cb 4) 13 = .ok (.iconst 0, 1) := by decide +kernel
theorem d4_14 : decode (mm_cb 4) 14 = .ok (.putfield 15, 3) := by decide +kernel
theorem d4_17 : decode (mm_cb 4) 17 = .ok (.return_, 1) := by decide +kernel
theorem d5_0 : decode (mm_cb 5) 0 = .ok (.aload_n 0, 1) := by decide +kernel
theorem d5_1 : decode (mm_cb 5) 1 = .ok (.invokespecial 3, 3) := by decide +kernel
theorem d5_4 : decode (mm_cb 5) 4 = .ok (.aload_n 0, 1) := by decide +kernel
theorem d5_5 : decode (mm_cb 5) 5 = .ok (.sipush 256, 3) := by decide +kernel
theorem d5_8 : decode (mm_cb 5) 8 = .ok (.newarray .int, 2) := by decide +kernel
theorem d5_10 : decode (mm_cb 5) 10 = .ok (.putfield 9, 3) := by decide +kernel
theorem d5_13 : decode (mm_cb 5) 13 = .ok (.aload_n 0, 1) := by decide +kernel
theorem d5_14 : decode (mm_cb 5) 14 = .ok (.sipush 256, 3) := by decide +kernel
theorem d5_17 : decode (mm_cb 5) 17 = .ok (.newarray .int, 2) := by decide +kernel
theorem d5_19 : decode (mm_cb 5) 19 = .ok (.putfield 15, 3) := by decide +kernel
theorem d5_22 : decode (mm_cb 5) 22 = .ok (.aload_n 0, 1) := by decide +kernel
theorem d5_23 : decode (mm_cb 5) 23 = .ok (.sipush 256, 3) := by decide +kernel
theorem d5_26 : decode (mm_cb 5) 26 = .ok (.newarray .int, 2) := by decide +kernel
theorem d5_28 : decode (mm_cb 5) 28 = .ok (.putfield 18, 3) := by decide +kernel
theorem d5_31 : decode (mm_cb 5) 31 = .ok (.aload_n 0, 1) := by decide +kernel
theorem d5_32 : decode (mm_cb 5) 32 = .ok (.aload_n 1, 1) := by decide +kernel
theorem d5_33 : decode (mm_cb 5) 33 = .ok (.putfield 21, 3) := by decide +kernel
theorem d5_36 : decode (mm_cb 5) 36 = .ok (.aload_n 0, 1) := by decide +kernel
theorem d5_37 : decode (mm_cb 5) 37 = .ok (.aload_n 2, 1) := by decide +kernel
theorem d5_38 : decode (mm_cb 5) 38 = .ok (.putfield 25, 3) := by decide +kernel
theorem d5_41 : decode (mm_cb 5) 41 = .ok (.return_, 1) := by decide +kernel
theorem d6_0 : decode (mm_cb 6) 0 = .ok (.aload_n 0, 1) := by decide +kernel
theorem d6_1 : decode (mm_cb 6) 1 = .ok (.invokespecial 3, 3) := by decide +kernel
theorem d6_4 : decode (mm_cb 6) 4 = .ok (.aload_n 0, 1) := by decide +kernel
theorem d6_5 : decode (mm_cb 6) 5 = .ok (.bipush 39, 2) := by decide +kernel
theorem d6_7 : decode (mm_cb 6) 7 = .ok (.newarray .int, 2) := by decide +kernel
theorem d6_9 : decode (mm_cb 6) 9 = .ok (.putfield 9, 3) := by decide +kernel
theorem d6_12 : decode (mm_cb 6) 12 = .ok (.aload_n 0, 1) := by decide +kernel
theorem d6_13 : decode (mm_cb 6) 13 = .ok (.aload_n 1, 1) := by decide +kernel
theorem d6_14 : decode (mm_cb 6) 14 = .ok (.putfield 15, 3) := by decide +kernel
theorem d6_17 : decode (mm_cb 6) 17 = .ok (.aload_n 0, 1) := by decide +kernel
theorem d6_18 : decode (mm_cb 6) 18 = .ok (.aload_n 2, 1) := by decide +kernel
theorem d6_19 : decode (mm_cb 6) 19 = .ok (.putfield 19, 3) := by decide +kernel
theorem d6_22 : decode (mm_cb 6) 22 = .ok (.aload_n 0, 1) := by decide +kernel
theorem d6_23 : decode (mm_cb 6) 23 = .ok (.aload_n 3, 1) := by decide +kernel
theorem d6_24 : decode (mm_cb 6) 24 = .ok (.putfield 23, 3) := by decide +kernel
theorem d6_27 : decode (mm_cb 6) 27 = .ok (.return_, 1) := by decide +kernel
theorem d7_0 : decode (mm_cb 7) 0 = .ok (.aload_n 0, 1) := by decide +kernel
theorem d7_1 : decode (mm_cb 7) 1 = .ok (.invokespecial 3, 3) := by decide +kernel
theorem d7_4 : decode (mm_cb 7) 4 = .ok (.aload_n 0, 1) := by decide +kernel
theorem d7_5 : decode (mm_cb 7) 5 = .ok (.bipush 20, 2) := by decide +kernel
theorem d7_7 : decode (mm_cb 7) 7 = .ok (.newarray .int, 2) := by decide +kernel
theorem d7_9 : decode (mm_cb 7) 9 = .ok (.putfield 9, 3) := by decide +kernel
theorem d7_12 : decode (mm_cb 7) 12 = .ok (.aload_n 0, 1) := by decide +kernel
theorem d7_13 : decode (mm_cb 7) 13 = .ok (.bipush 20, 2) := by decide +kernel
theorem d7_15 : decode (mm_cb 7) 15 = .ok (.newarray .int, 2) := by decide +kernel
theorem d7_17 : decode (mm_cb 7) 17 = .ok (.putfield 15, 3) := by decide +kernel
theorem d7_20 : decode (mm_cb 7) 20 = .ok (.aload_n 0, 1) := by decide +kernel
theorem d7_21 : decode (mm_cb 7) 21 = .ok (.bipush 20, 2) := by decide +kernel
theorem d7_23 : decode (mm_cb 7) 23 = .ok (.newarray .int, 2) := by decide +kernel
theorem d7_25 : decode (mm_cb 7) 25 = .ok (.putfield 18, 3) := by decide +kernel
theorem d7_28 : decode (mm_cb 7) 28 = .ok (.aload_n 0, 1) := by decide +kernel
theorem d7_29 : decode (mm_cb 7) 29 = .ok (.bipush 20, 2) := by decide +kernel
theorem d7_31 : decode (mm_cb 7) 31 = .ok (.newarray .int, 2) := by decide +kernel
theorem d7_33 : decode (mm_cb 7) 33 = .ok (.putfield 21, 3) := by decide +kernel
theorem d7_36 : decode (mm_cb 7) 36 = .ok (.aload_n 0, 1) := by decide +kernel
theorem d7_37 : decode (mm_cb 7) 37 = .ok (.iconst 0, 1) := by decide +kernel
theorem d7_38 : decode (mm_cb 7) 38 = .ok (.putfield 24, 3) := by decide +kernel
theorem d7_41 : decode (mm_cb 7) 41 = .ok (.aload_n 0, 1) := by decide +kernel
theorem d7_42 : decode (mm_cb 7) 42 = .ok (.iconst 0, 1) := by decide +kernel
theorem d7_43 : decode (mm_cb 7) 43 = .ok (.putfield 28, 3) := by decide +kernel
theorem d7_46 : decode (mm_cb 7) 46 = .ok (.return_, 1) := by decide +kernel
theorem d8_0 : decode (mm_cb 8) 0 = .ok (.aload_n 0, 1) := by decide +kernel
theorem d8_1 : decode (mm_cb 8) 1 = .ok (.invokespecial 3, 3) := by decide +kernel
theorem d8_4 : decode (mm_cb 8) 4 = .ok (.aload_n 0, 1) := by decide +kernel
theorem d8_5 : decode (mm_cb 8) 5 = .ok (.bipush 121, 2) := by decide +kernel
theorem d8_7 : decode (mm_cb 8) 7 = .ok (.newarray .int, 2) := by decide +kernel
theorem d8_9 : decode (mm_cb 8) 9 = .ok (.putfield 9, 3) := by decide +kernel
theorem d8_12 : decode (mm_cb 8) 12 = .ok (.aload_n 0, 1) := by decide +kernel
theorem d8_13 : decode (mm_cb 8) 13 = .ok (.iconst 0, 1) := by decide +kernel
theorem d8_14 : decode (mm_cb 8) 14 = .ok (.putfield 15, 3) := by decide +kernel
theorem d8_17 : decode (mm_cb 8) 17 = .ok (.aload_n 0, 1) := by decide +kernel
theorem d8_18 : decode (mm_cb 8) 18 = .ok (.iconst 0, 1) := by decide +kernel
theorem d8_19 : decode (mm_cb 8) 19 = .ok (.putfield 19, 3) := by decide +kernel
theorem d8_22 : decode (mm_cb 8) 22 = .ok (.aload_n 0, 1) := by decide +kernel
theorem d8_23 : decode (mm_cb 8) 23 = .ok (.lconst 0, 1) := by decide +kernel
theorem d8_24 : decode (mm_cb 8) 24 = .ok (.putfield 22, 3) := by decide +kernel
theorem d8_27 : decode (mm_cb 8) 27 = .ok (.aload_n 0, 1) := by decide +kernel
theorem d8_28 : decode (mm_cb 8) 28 = .ok (.aload_n 1, 1) := by decide +kernel
theorem d8_29 : decode (mm_cb 8) 29 = .ok (.putfield 26, 3) := by decide +kernel
theorem d8_32 : decode (mm_cb 8) 32 = .ok (.aload_n 0, 1) := by decide +kernel
theorem d8_33 : decode (mm_cb 8) 33 = .ok (.aload_n 2, 1) := by decide +kernel
theorem d8_34 : decode (mm_cb 8) 34 = .ok (.putfield 30, 3) := by decide +kernel
theorem d8_37 : decode (mm_cb 8) 37 = .ok (.return_, 1) := by decide +kernel
theorem d9_0 : decode (mm_cb 9) 0 = .ok (.aload_n 0, 1) := by decide +kernel
theorem d9_1 : decode (mm_cb 9) 1 = .ok (.getfield 35, 3) := by decide +kernel
theorem d9_4 : decode (mm_cb 9) 4 = .ok (.iload_n 1, 1) := by decide +kernel
theorem d9_5 : decode (mm_cb 9) 5 = .ok (.invokevirtual 143, 3) := by decide +kernel
theorem d9_8 : decode (mm_cb 9) 8 = .ok (.ireturn, 1) := by decide +kernel
theorem d10_0 : decode (mm_cb 10) 0 = .ok (.iload_n 1, 1) := by decide +kernel
theorem d10_1 : decode (mm_cb 10) 1 = .ok (.ifCond .lt 11, 3) := by decide +kernel
theorem d10_4 : decode (mm_cb 10) 4 = .ok (.iload_n 1, 1) := by decide +kernel
theorem d10_5 : decode (mm_cb 10) 5 = .ok (.aload_n 0, 1) := by decide +kernel
theorem d10_6 : decode (mm_cb 10) 6 = .ok (.getfield 15, 3) := by decide +kernel
theorem d10_9 : decode (mm_cb 10) 9 = .ok (.if_icmp .lt 7, 3) := by decide +kernel
theorem d10_12 : decode (mm_cb 10) 12 = .ok (.iconst (-1), 1) := by decide +kernel
theorem d10_13 : decode (mm_cb 10) 13 = .ok (.goto 9, 3) := by decide +kernel
theorem d10_16 : decode (mm_cb 10) 16 = .ok (.aload_n 0, 1) := by decide +kernel
theorem d10_17 : decode (mm_cb 10) 17 = .ok (.getfield 9, 3) := by decide +kernel
theorem d10_20 : decode (mm_cb 10) 20 = .ok (.iload_n 1, 1) := by decide +kernel
theorem d10_21 : decode (mm_cb 10) 21 = .ok (.iaload, 1) := by decide +kernel
theorem d10_22 : decode (mm_cb 10) 22 = .ok (.ireturn, 1) := by decide +kernel
theorem d11_0 : decode (mm_cb 11) 0 = .ok (.aload_n 0, 1) := by decide +kernel
theorem d11_1 : decode (mm_cb 11) 1 = .ok (.getfield 60, 3) := by decide +kernel
theorem d11_4 : decode (mm_cb 11) 4 = .ok (.invokevirtual 171, 3) := by decide +kernel
theorem d11_7 : decode (mm_cb 11) 7 = .ok (.return_, 1) := by decide +kernel
theorem d12_0 : decode (mm_cb 12) 0 = .ok (.aload_n 0, 1) := by decide +kernel
theorem d12_1 : decode (mm_cb 12) 1 = .ok (.iconst 0, 1) := by decide +kernel
theorem d12_2 : decode (mm_cb 12) 2 = .ok (.putfield 24, 3) := by decide +kernel
theorem d12_5 : decode (mm_cb 12) 5 = .ok (.aload_n 0, 1) := by decide +kernel
theorem d12_6 : decode (mm_cb 12) 6 = .ok (.iconst 0, 1) := by decide +kernel
theorem d12_7 : decode (mm_cb 12) 7 = .ok (.putfield 28, 3) := by decide +kernel
theorem d12_10 : decode (mm_cb 12) 10 = .ok (.return_, 1) := by decide +kernel
theorem d13_0 : decode (mm_cb 13) 0 = .ok (.aload_n 0, 1) := by decide +kernel
theorem d13_1 : decode (mm_cb 13) 1 = .ok (.getfield 73, 3) := by decide +kernel
theorem d13_4 : decode (mm_cb 13) 4 = .ok (.ireturn, 1) := by decide +kernel
theorem d14_0 : decode (mm_cb 14) 0 = .ok (.aload_n 0, 1) := by decide +kernel
theorem d14_1 : decode (mm_cb 14) 1 = .ok (.getfield 77, 3) := by decide +kernel
theorem d14_4 : decode (mm_cb 14) 4 = .ok (.lreturn, 1) := by decide +kernel
theorem d15_0 : decode (mm_cb 15) 0 = .ok (.aload 6, 2) := by decide +kernel
theorem d15_2 : decode (mm_cb 15) 2 = .ok (.iconst 0, 1) := by decide +kernel
theorem d15_3 : decode (mm_cb 15) 3 = .ok (.aload_n 0, 1) := by decide +kernel
theorem d15_4 : decode (mm_cb 15) 4 = .ok (.iload_n 1, 1) := by decide +kernel
theorem d15_5 : decode (mm_cb 15) 5 = .ok (.iload_n 2, 1) := by decide +kernel
theorem d15_6 : decode (mm_cb 15) 6 = .ok (.iload_n 3, 1) := by decide +kernel
theorem d15_7 : decode (mm_cb 15) 7 = .ok (.iload 4, 2) := by decide +kernel
theorem d15_9 : decode (mm_cb 15) 9 = .ok (.iload 5, 2) := by decide +kernel
theorem d15_11 : decode (mm_cb 15) 11 = .ok (.invokevirtual 7, 3) := by decide +kernel
theorem d15_14 : decode (mm_cb 15) 14 = .ok (.i2l, 1) := by decide +kernel
theorem d15_15 : decode (mm_cb 15) 15 = .ok (.lastore, 1) := by decide +kernel
theorem d15_16 : decode (mm_cb 15) 16 = .ok (.goto 15, 3) := by decide +kernel
theorem d15_19 : decode (mm_cb 15) 19 = .ok (.astore 7, 2) := by decide +kernel
theorem d15_21 : decode (mm_cb 15) 21 = .ok (.iconst 1, 1) := by decide +kernel
theorem d15_22 : decode (mm_cb 15) 22 = .ok (.ireturn, 1) := by decide +kernel
theorem d15_23 : decode (mm_cb 15) 23 = .ok (.astore 7, 2) := by decide +kernel
theorem d15_25 : decode (mm_cb 15) 25 = .ok (.iconst 2, 1) := by decide +kernel
theorem d15_26 : decode (mm_cb 15) 26 = .ok (.ireturn, 1) := by decide +kernel
theorem d15_27 : decode (mm_cb 15) 27 = .ok (.astore 7, 2) := by decide +kernel
theorem d15_29 : decode (mm_cb 15) 29 = .ok (.iconst 3, 1) := by decide +kernel
theorem d15_30 : decode (mm_cb 15) 30 = .ok (.ireturn, 1) := by decide +kernel
theorem d15_31 : decode (mm_cb 15) 31 = .ok (.iconst 0, 1) := by decide +kernel
theorem d15_32 : decode (mm_cb 15) 32 = .ok (.ireturn, 1) := by decide +kernel
theorem d16_0 : decode (mm_cb 16) 0 = .ok (.iload_n 1, 1) := by decide +kernel
theorem d16_1 : decode (mm_cb 16) 1 = .ok (.invokestatic 81, 3) := by decide +kernel
theorem d16_4 : decode (mm_cb 16) 4 = .ok (.iload_n 2, 1) := by decide +kernel
theorem d16_5 : decode (mm_cb 16) 5 = .ok (.ifCond .lt 8, 3) := by decide +kernel
theorem d16_8 : decode (mm_cb 16) 8 = .ok (.iload_n 2, 1) := by decide +kernel
theorem d16_9 : decode (mm_cb 16) 9 = .ok (.iconst 3, 1) := by decide +kernel
theorem d16_10 : decode (mm_cb 16) 10 = .ok (.if_icmp .le 13, 3) := by decide +kernel
theorem d16_13 : decode (mm_cb 16) 13 = .ok (.new 85, 3) := by decide +kernel
theorem d16_16 : decode (mm_cb 16) 16 = .ok (.dup, 1) := by decide +kernel
theorem d16_17 : decode (mm_cb 16) 17 = .ok (.ldc 87, 2) := by decide +kernel
theorem d16_19 : decode (mm_cb 16) 19 = .ok (.invokespecial 89, 3) := by decide +kernel
theorem d16_22 : decode (mm_cb 16) 22 = .ok (.athrow, 1) := by decide +kernel
theorem d16_23 : decode (mm_cb 16) 23 = .ok (.iload_n 2, 1) := by decide +kernel
theorem d16_24 : decode (mm_cb 16) 24 = .ok (.iload_n 3, 1) := by decide +kernel
theorem d16_25 : decode (mm_cb 16) 25 = .ok (.iload 4, 2) := by decide +kernel
theorem d16_27 : decode (mm_cb 16) 27 = .ok (.iload 5, 2) := by decide +kernel
theorem d16_29 : decode (mm_cb 16) 29 = .ok (.invokestatic 92, 3) := by decide +kernel
theorem d16_32 : decode (mm_cb 16) 32 = .ok (.aload_n 0, 1) := by decide +kernel
theorem d16_33 : decode (mm_cb 16) 33 = .ok (.getfield 10, 3) := by decide +kernel
theorem d16_36 : decode (mm_cb 16) 36 = .ok (.iload_n 1, 1) := by decide +kernel
theorem d16_37 : decode (mm_cb 16) 37 = .ok (.invokevirtual 96, 3) := by decide +kernel
theorem d16_40 : decode (mm_cb 16) 40 = .ok (.iconst 4, 1) := by decide +kernel
theorem d16_41 : decode (mm_cb 16) 41 = .ok (.if_icmp .lt 13, 3) := by decide +kernel
theorem d16_44 : decode (mm_cb 16) 44 = .ok (.new 100, 3) := by decide +kernel
theorem d16_47 : decode (mm_cb 16) 47 = .ok (.dup, 1) := by decide +kernel
theorem d16_48 : decode (mm_cb 16) 48 = .ok (.ldc 102, 2) := by decide +kernel
theorem d16_50 : decode (mm_cb 16) 50 = .ok (.invokespecial 104, 3) := by decide +kernel
theorem d16_53 : decode (mm_cb 16) 53 = .ok (.athrow, 1) := by decide +kernel
theorem d16_54 : decode (mm_cb 16) 54 = .ok (.aload_n 0, 1) := by decide +kernel
theorem d16_55 : decode (mm_cb 16) 55 = .ok (.getfield 10, 3) := by decide +kernel
theorem d16_58 : decode (mm_cb 16) 58 = .ok (.iload_n 1, 1) := by decide +kernel
theorem d16_59 : decode (mm_cb 16) 59 = .ok (.iload_n 2, 1) := by decide +kernel
theorem d16_60 : decode (mm_cb 16) 60 = .ok (.iload_n 3, 1) := by decide +kernel
theorem d16_61 : decode (mm_cb 16) 61 = .ok (.iload 4, 2) := by decide +kernel
theorem d16_63 : decode (mm_cb 16) 63 = .ok (.iload 5, 2) := by decide +kernel
theorem d16_65 : decode (mm_cb 16) 65 = .ok (.invokevirtual 105, 3) := by decide +kernel
theorem d16_68 : decode (mm_cb 16) 68 = .ok (.istore 6, 2) := by decide +kernel
theorem d16_70 : decode (mm_cb 16) 70 = .ok (.aload_n 0, 1) := by decide +kernel
theorem d16_71 : decode (mm_cb 16) 71 = .ok (.getfield 21, 3) := by decide +kernel
theorem d16_74 : decode (mm_cb 16) 74 = .ok (.invokevirtual 109, 3) := by decide +kernel
theorem d16_77 : decode (mm_cb 16) 77 = .ok (.aload_n 0, 1) := by decide +kernel
theorem d16_78 : decode (mm_cb 16) 78 = .ok (.getfield 28, 3) := by decide +kernel
theorem d16_81 : decode (mm_cb 16) 81 = .ok (.invokevirtual 112, 3) := by decide +kernel
theorem d16_84 : decode (mm_cb 16) 84 = .ok (.iload 6, 2) := by decide +kernel
theorem d16_86 : decode (mm_cb 16) 86 = .ok (.ireturn, 1) := by decide +kernel
theorem d17_0 : decode (mm_cb 17) 0 = .ok (.iload_n 0, 1) := by decide +kernel
theorem d17_1 : decode (mm_cb 17) 1 = .ok (.ifCond .lt 9, 3) := by decide +kernel
theorem d17_4 : decode (mm_cb 17) 4 = .ok (.iload_n 0, 1) := by decide +kernel
theorem d17_5 : decode (mm_cb 17) 5 = .ok (.bipush 6, 2) := by decide +kernel
theorem d17_7 : decode (mm_cb 17) 7 = .ok (.if_icmp .lt 13, 3) := by decide +kernel
theorem d17_10 : decode (mm_cb 17) 10 = .ok (.new 210, 3) := by decide +kernel
theorem d17_13 : decode (mm_cb 17) 13 = .ok (.dup, 1) := by decide +kernel
theorem d17_14 : decode (mm_cb 17) 14 = .ok (.ldc 212, 2) := by decide +kernel
theorem d17_16 : decode (mm_cb 17) 16 = .ok (.invokespecial 214, 3) := by decide +kernel
theorem d17_19 : decode (mm_cb 17) 19 = .ok (.athrow, 1) := by decide +kernel
theorem d17_20 : decode (mm_cb 17) 20 = .ok (.return_, 1) := by decide +kernel
theorem d18_0 : decode (mm_cb 18) 0 = .ok (.iload_n 0, 1) := by decide +kernel
theorem d18_1 : decode (mm_cb 18) 1 = .ok (.ifCond .le 7, 3) := by decide +kernel
theorem d18_4 : decode (mm_cb 18) 4 = .ok (.iload_n 1, 1) := by decide +kernel
theorem d18_5 : decode (mm_cb 18) 5 = .ok (.invokestatic 81, 3) := by decide +kernel
theorem d18_8 : decode (mm_cb 18) 8 = .ok (.iload_n 0, 1) := by decide +kernel
theorem d18_9 : decode (mm_cb 18) 9 = .ok (.iconst 1, 1) := by decide +kernel
theorem d18_10 : decode (mm_cb 18) 10 = .ok (.if_icmp .le 7, 3) := by decide +kernel
theorem d18_13 : decode (mm_cb 18) 13 = .ok (.iload_n 2, 1) := by decide +kernel
theorem d18_14 : decode (mm_cb 18) 14 = .ok (.invokestatic 81, 3) := by decide +kernel
theorem d18_17 : decode (mm_cb 18) 17 = .ok (.iload_n 0, 1) := by decide +kernel
theorem d18_18 : decode (mm_cb 18) 18 = .ok (.iconst 2, 1) := by decide +kernel
theorem d18_19 : decode (mm_cb 18) 19 = .ok (.if_icmp .le 7, 3) := by decide +kernel
theorem d18_22 : decode (mm_cb 18) 22 = .ok (.iload_n 3, 1) := by decide +kernel
theorem d18_23 : decode (mm_cb 18) 23 = .ok (.invokestatic 81, 3) := by decide +kernel
theorem d18_26 : decode (mm_cb 18) 26 = .ok (.iload_n 0, 1) := by decide +kernel
theorem d18_27 : decode (mm_cb 18) 27 = .ok (.iconst 1, 1) := by decide +kernel
theorem d18_28 : decode (mm_cb 18) 28 = .ok (.if_icmp .ge 8, 3) := by decide +kernel
theorem d18_31 : decode (mm_cb 18) 31 = .ok (.iload_n 1, 1) := by decide +kernel
theorem d18_32 : decode (mm_cb 18) 32 = .ok (.iconst (-1), 1) := by decide +kernel
theorem d18_33 : decode (mm_cb 18) 33 = .ok (.if_icmp .ne 23, 3) := by decide +kernel
theorem d18_36 : decode (mm_cb 18) 36 = .ok (.iload_n 0, 1) := by decide +kernel
theorem d18_37 : decode (mm_cb 18) 37 = .ok (.iconst 2, 1) := by decide +kernel
theorem d18_38 : decode (mm_cb 18) 38 = .ok (.if_icmp .ge 8, 3) := by decide +kernel
theorem d18_41 : decode (mm_cb 18) 41 = .ok (.iload_n 2, 1) := by decide +kernel
theorem d18_42 : decode (mm_cb 18) 42 = .ok (.iconst (-1), 1) := by decide +kernel
theorem d18_43 : decode (mm_cb 18) 43 = .ok (.if_icmp .ne 13, 3) := by decide +kernel
theorem d18_46 : decode (mm_cb 18) 46 = .ok (.iload_n 0, 1) := by decide +kernel
theorem d18_47 : decode (mm_cb 18) 47 = .ok (.iconst 3, 1) := by decide +kernel
theorem d18_48 : decode (mm_cb 18) 48 = .ok (.if_icmp .ge 18, 3) := by decide +kernel
theorem d18_51 : decode (mm_cb 18) 51 = .ok (.iload_n 3, 1) := by decide +kernel
theorem d18_52 : decode (mm_cb 18) 52 = .ok (.iconst (-1), 1) := by decide +kernel
theorem d18_53 : decode (mm_cb 18) 53 = .ok (.if_icmp .eq 13, 3) := by decide +kernel
theorem d18_56 : decode (mm_cb 18) 56 = .ok (.new 85, 3) := by decide +kernel
theorem d18_59 : decode (mm_cb 18) 59 = .ok (.dup, 1) := by decide +kernel
theorem d18_60 : decode (mm_cb 18) 60 = .ok (.ldc 215, 2) := by decide +kernel
theorem d18_62 : decode (mm_cb 18) 62 = .ok (.invokespecial 89, 3) := by decide +kernel
theorem d18_65 : decode (mm_cb 18) 65 = .ok (.athrow, 1) := by decide +kernel
theorem d18_66 : decode (mm_cb 18) 66 = .ok (.return_, 1) := by decide +kernel
theorem d19_0 : decode (mm_cb 19) 0 = .ok (.aload_n 0, 1) := by decide +kernel
theorem d19_1 : decode (mm_cb 19) 1 = .ok (.getfield 9, 3) := by decide +kernel
theorem d19_4 : decode (mm_cb 19) 4 = .ok (.iload_n 1, 1) := by decide +kernel
theorem d19_5 : decode (mm_cb 19) 5 = .ok (.iaload, 1) := by decide +kernel
theorem d19_6 : decode (mm_cb 19) 6 = .ok (.ireturn, 1) := by decide +kernel
theorem d20_0 : decode (mm_cb 20) 0 = .ok (.aload_n 0, 1) := by decide +kernel
theorem d20_1 : decode (mm_cb 20) 1 = .ok (.getfield 9, 3) := by decide +kernel
theorem d20_4 : decode (mm_cb 20) 4 = .ok (.iload_n 1, 1) := by decide +kernel
theorem d20_5 : decode (mm_cb 20) 5 = .ok (.iaload, 1) := by decide +kernel
theorem d20_6 : decode (mm_cb 20) 6 = .ok (.istore 6, 2) := by decide +kernel
theorem d20_8 : decode (mm_cb 20) 8 = .ok (.iload_n 1, 1) := by decide +kernel
theorem d20_9 : decode (mm_cb 20) 9 = .ok (.iload 6, 2) := by decide +kernel
theorem d20_11 : decode (mm_cb 20) 11 = .ok (.invokestatic 21, 3) := by decide +kernel
theorem d20_14 : decode (mm_cb 20) 14 = .ok (.istore 7, 2) := by decide +kernel
theorem d20_16 : decode (mm_cb 20) 16 = .ok (.aload_n 0, 1) := by decide +kernel
theorem d20_17 : decode (mm_cb 20) 17 = .ok (.getfield 15, 3) := by decide +kernel
theorem d20_20 : decode (mm_cb 20) 20 = .ok (.iload 7, 2) := by decide +kernel
theorem d20_22 : decode (mm_cb 20) 22 = .ok (.iload_n 2, 1) := by decide +kernel
theorem d20_23 : decode (mm_cb 20) 23 = .ok (.iastore, 1) := by decide +kernel
theorem d20_24 : decode (mm_cb 20) 24 = .ok (.aload_n 0, 1) := by decide +kernel
theorem d20_25 : decode (mm_cb 20) 25 = .ok (.getfield 18, 3) := by decide +kernel
theorem d20_28 : decode (mm_cb 20) 28 = .ok (.iload 7, 2) := by decide +kernel
theorem d20_30 : decode (mm_cb 20) 30 = .ok (.iconst 3, 1) := by decide +kernel
theorem d20_31 : decode (mm_cb 20) 31 = .ok (.imul, 1) := by decide +kernel
theorem d20_32 : decode (mm_cb 20) 32 = .ok (.iload_n 3, 1) := by decide +kernel
theorem d20_33 : decode (mm_cb 20) 33 = .ok (.iastore, 1) := by decide +kernel
theorem d20_34 : decode (mm_cb 20) 34 = .ok (.aload_n 0, 1) := by decide +kernel
theorem d20_35 : decode (mm_cb 20) 35 = .ok (.getfield 18, 3) := by decide +kernel
theorem d20_38 : decode (mm_cb 20) 38 = .ok (.iload 7, 2) := by decide +kernel
theorem d20_40 : decode (mm_cb 20) 40 = .ok (.iconst 3, 1) := by decide +kernel
theorem d20_41 : decode (mm_cb 20) 41 = .ok (.imul, 1) := by decide +kernel
theorem d20_42 : decode (mm_cb 20) 42 = .ok (.iconst 1, 1) := by decide +kernel
theorem d20_43 : decode (mm_cb 20) 43 = .ok (.iadd, 1) := by decide +kernel
theorem d20_44 : decode (mm_cb 20) 44 = .ok (.iload 4, 2) := by decide +kernel
theorem d20_46 : decode (mm_cb 20) 46 = .ok (.iastore, 1) := by decide +kernel
theorem d20_47 : decode (mm_cb 20) 47 = .ok (.aload_n 0, 1) := by decide +kernel
theorem d20_48 : decode (mm_cb 20) 48 = .ok (.getfield 18, 3) := by decide +kernel
theorem d20_51 : decode (mm_cb 20) 51 = .ok (.iload 7, 2) := by decide +kernel
theorem d20_53 : decode (mm_cb 20) 53 = .ok (.iconst 3, 1) := by decide +kernel
theorem d20_54 : decode (mm_cb 20) 54 = .ok (.imul, 1) := by decide +kernel
theorem d20_55 : decode (mm_cb 20) 55 = .ok (.iconst 2, 1) := by decide +kernel
theorem d20_56 : decode (mm_cb 20) 56 = .ok (.iadd, 1) := by decide +kernel
theorem d20_57 : decode (mm_cb 20) 57 = .ok (.iload 5, 2) := by decide +kernel
theorem d20_59 : decode (mm_cb 20) 59 = .ok (.iastore, 1) := by decide +kernel
theorem d20_60 : decode (mm_cb 20) 60 = .ok (.aload_n 0, 1) := by decide +kernel
theorem d20_61 : decode (mm_cb 20) 61 = .ok (.getfield 9, 3) := by decide +kernel
theorem d20_64 : decode (mm_cb 20) 64 = .ok (.iload_n 1, 1) := by decide +kernel
theorem d20_65 : decode (mm_cb 20) 65 = .ok (.iload 6, 2) := by decide +kernel
theorem d20_67 : decode (mm_cb 20) 67 = .ok (.iconst 1, 1) := by decide +kernel
theorem d20_68 : decode (mm_cb 20) 68 = .ok (.iadd, 1) := by decide +kernel
theorem d20_69 : decode (mm_cb 20) 69 = .ok (.iastore, 1) := by decide +kernel
theorem d20_70 : decode (mm_cb 20) 70 = .ok (.iload 6, 2) := by decide +kernel
theorem d20_72 : decode (mm_cb 20) 72 = .ok (.ireturn, 1) := by decide +kernel
theorem d21_0 : decode (mm_cb 21) 0 = .ok (.iload_n 0, 1) := by decide +kernel
theorem d21_1 : decode (mm_cb 21) 1 = .ok (.iconst 4, 1) := by decide +kernel
theorem d21_2 : decode (mm_cb 21) 2 = .ok (.imul, 1) := by decide +kernel
theorem d21_3 : decode (mm_cb 21) 3 = .ok (.iload_n 1, 1) := by decide +kernel
theorem d21_4 : decode (mm_cb 21) 4 = .ok (.iadd, 1) := by decide +kernel
theorem d21_5 : decode (mm_cb 21) 5 = .ok (.ireturn, 1) := by decide +kernel
theorem d22_0 : decode (mm_cb 22) 0 = .ok (.iconst 0, 1) := by decide +kernel
theorem d22_1 : decode (mm_cb 22) 1 = .ok (.istore_n 1, 1) := by decide +kernel
theorem d22_2 : decode (mm_cb 22) 2 = .ok (.iload_n 1, 1) := by decide +kernel
theorem d22_3 : decode (mm_cb 22) 3 = .ok (.iconst 5, 1) := by decide +kernel
theorem d22_4 : decode (mm_cb 22) 4 = .ok (.if_icmp .ge 29, 3) := by decide +kernel
theorem d22_7 : decode (mm_cb 22) 7 = .ok (.iconst 0, 1) := by decide +kernel
theorem d22_8 : decode (mm_cb 22) 8 = .ok (.istore_n 2, 1) := by decide +kernel
theorem d22_9 : decode (mm_cb 22) 9 = .ok (.iload_n 2, 1) := by decide +kernel
theorem d22_10 : decode (mm_cb 22) 10 = .ok (.bipush 6, 2) := by decide +kernel
theorem d22_12 : decode (mm_cb 22) 12 = .ok (.if_icmp .ge 15, 3) := by decide +kernel
theorem d22_15 : decode (mm_cb 22) 15 = .ok (.aload_n 0, 1) := by decide +kernel
theorem d22_16 : decode (mm_cb 22) 16 = .ok (.iload_n 2, 1) := by decide +kernel
theorem d22_17 : decode (mm_cb 22) 17 = .ok (.iload_n 1, 1) := by decide +kernel
theorem d22_18 : decode (mm_cb 22) 18 = .ok (.invokevirtual 22, 3) := by decide +kernel
theorem d22_21 : decode (mm_cb 22) 21 = .ok (.iinc 2 1, 3) := by decide +kernel
theorem d22_24 : decode (mm_cb 22) 24 = .ok (.goto (-15), 3) := by decide +kernel
theorem d22_27 : decode (mm_cb 22) 27 = .ok (.iinc 1 1, 3) := by decide +kernel
theorem d22_30 : decode (mm_cb 22) 30 = .ok (.goto (-28), 3) := by decide +kernel
theorem d22_33 : decode (mm_cb 22) 33 = .ok (.return_, 1) := by decide +kernel
theorem d23_0 : decode (mm_cb 23) 0 = .ok (.lconst 0, 1) := by decide +kernel
theorem d23_1 : decode (mm_cb 23) 1 = .ok (.lstore_n 3, 1) := by decide +kernel
theorem d23_2 : decode (mm_cb 23) 2 = .ok (.iconst 0, 1) := by decide +kernel
theorem d23_3 : decode (mm_cb 23) 3 = .ok (.istore 5, 2) := by decide +kernel
theorem d23_5 : decode (mm_cb 23) 5 = .ok (.iload 5, 2) := by decide +kernel
theorem d23_7 : decode (mm_cb 23) 7 = .ok (.aload_n 0, 1) := by decide +kernel
theorem d23_8 : decode (mm_cb 23) 8 = .ok (.getfield 18, 3) := by decide +kernel
theorem d23_11 : decode (mm_cb 23) 11 = .ok (.iload_n 1, 1) := by decide +kernel
theorem d23_12 : decode (mm_cb 23) 12 = .ok (.invokevirtual 26, 3) := by decide +kernel
theorem d23_15 : decode (mm_cb 23) 15 = .ok (.if_icmp .ge 67, 3) := by decide +kernel
theorem d23_18 : decode (mm_cb 23) 18 = .ok (.iload_n 1, 1) := by decide +kernel
theorem d23_19 : decode (mm_cb 23) 19 = .ok (.iload 5, 2) := by decide +kernel
theorem d23_21 : decode (mm_cb 23) 21 = .ok (.invokestatic 32, 3) := by decide +kernel
theorem d23_24 : decode (mm_cb 23) 24 = .ok (.istore 6, 2) := by decide +kernel
theorem d23_26 : decode (mm_cb 23) 26 = .ok (.aload_n 0, 1) := by decide +kernel
theorem d23_27 : decode (mm_cb 23) 27 = .ok (.getfield 18, 3) := by decide +kernel
theorem d23_30 : decode (mm_cb 23) 30 = .ok (.iload 6, 2) := by decide +kernel
theorem d23_32 : decode (mm_cb 23) 32 = .ok (.invokevirtual 36, 3) := by decide +kernel
theorem d23_35 : decode (mm_cb 23) 35 = .ok (.ifCond .le 11, 3) := by decide +kernel
theorem d23_38 : decode (mm_cb 23) 38 = .ok (.iload_n 2, 1) := by decide +kernel
theorem d23_39 : decode (mm_cb 23) 39 = .ok (.ifCond .ne 7, 3) := by decide +kernel
theorem d23_42 : decode (mm_cb 23) 42 = .ok (.lconst 0, 1) := by decide +kernel
theorem d23_43 : decode (mm_cb 23) 43 = .ok (.goto 11, 3) := by decide +kernel
theorem d23_46 : decode (mm_cb 23) 46 = .ok (.aload_n 0, 1) := by decide +kernel
theorem d23_47 : decode (mm_cb 23) 47 = .ok (.iload 6, 2) := by decide +kernel
theorem d23_49 : decode (mm_cb 23) 49 = .ok (.iconst 0, 1) := by decide +kernel
theorem d23_50 : decode (mm_cb 23) 50 = .ok (.iload_n 2, 1) := by decide +kernel
theorem d23_51 : decode (mm_cb 23) 51 = .ok (.invokevirtual 39, 3) := by decide +kernel
theorem d23_54 : decode (mm_cb 23) 54 = .ok (.lstore 7, 2) := by decide +kernel
theorem d23_56 : decode (mm_cb 23) 56 = .ok (.aload_n 0, 1) := by decide +kernel
theorem d23_57 : decode (mm_cb 23) 57 = .ok (.getfield 15, 3) := by decide +kernel
theorem d23_60 : decode (mm_cb 23) 60 = .ok (.iload 6, 2) := by decide +kernel
theorem d23_62 : decode (mm_cb 23) 62 = .ok (.iconst 5, 1) := by decide +kernel
theorem d23_63 : decode (mm_cb 23) 63 = .ok (.imul, 1) := by decide +kernel
theorem d23_64 : decode (mm_cb 23) 64 = .ok (.iload_n 2, 1) := by decide +kernel
theorem d23_65 : decode (mm_cb 23) 65 = .ok (.iadd, 1) := by decide +kernel
theorem d23_66 : decode (mm_cb 23) 66 = .ok (.lload 7, 2) := by decide +kernel
theorem d23_68 : decode (mm_cb 23) 68 = .ok (.lastore, 1) := by decide +kernel
theorem d23_69 : decode (mm_cb 23) 69 = .ok (.lload_n 3, 1) := by decide +kernel
theorem d23_70 : decode (mm_cb 23) 70 = .ok (.lload 7, 2) := by decide +kernel
theorem d23_72 : decode (mm_cb 23) 72 = .ok (.invokestatic 43, 3) := by decide +kernel
theorem d23_75 : decode (mm_cb 23) 75 = .ok (.lstore_n 3, 1) := by decide +kernel
theorem d23_76 : decode (mm_cb 23) 76 = .ok (.iinc 5 1, 3) := by decide +kernel
theorem d23_79 : decode (mm_cb 23) 79 = .ok (.goto (-74), 3) := by decide +kernel
theorem d23_82 : decode (mm_cb 23) 82 = .ok (.aload_n 0, 1) := by decide +kernel
theorem d23_83 : decode (mm_cb 23) 83 = .ok (.getfield 11, 3) := by decide +kernel
theorem d23_86 : decode (mm_cb 23) 86 = .ok (.iload_n 1, 1) := by decide +kernel
theorem d23_87 : decode (mm_cb 23) 87 = .ok (.iconst 5, 1) := by decide +kernel
theorem d23_88 : decode (mm_cb 23) 88 = .ok (.imul, 1) := by decide +kernel
theorem d23_89 : decode (mm_cb 23) 89 = .ok (.iload_n 2, 1) := by decide +kernel
theorem d23_90 : decode (mm_cb 23) 90 = .ok (.iadd, 1) := by decide +kernel
theorem d23_91 : decode (mm_cb 23) 91 = .ok (.lload_n 3, 1) := by decide +kernel
theorem d23_92 : decode (mm_cb 23) 92 = .ok (.lastore, 1) := by decide +kernel
theorem d23_93 : decode (mm_cb 23) 93 = .ok (.return_, 1) := by decide +kernel
theorem d24_0 : decode (mm_cb 24) 0 = .ok (.aload_n 0, 1) := by decide +kernel
theorem d24_1 : decode (mm_cb 24) 1 = .ok (.getfield 15, 3) := by decide +kernel
theorem d24_4 : decode (mm_cb 24) 4 = .ok (.iload_n 1, 1) := by decide +kernel
theorem d24_5 : decode (mm_cb 24) 5 = .ok (.iaload, 1) := by decide +kernel
theorem d24_6 : decode (mm_cb 24) 6 = .ok (.ireturn, 1) := by decide +kernel
theorem d25_0 : decode (mm_cb 25) 0 = .ok (.lconst 1, 1) := by decide +kernel
theorem d25_1 : decode (mm_cb 25) 1 = .ok (.lstore 4, 2) := by decide +kernel
theorem d25_3 : decode (mm_cb 25) 3 = .ok (.iload_n 2, 1) := by decide +kernel
theorem d25_4 : decode (mm_cb 25) 4 = .ok (.istore 6, 2) := by decide +kernel
theorem d25_6 : decode (mm_cb 25) 6 = .ok (.iload 6, 2) := by decide +kernel
theorem d25_8 : decode (mm_cb 25) 8 = .ok (.aload_n 0, 1) := by decide +kernel
theorem d25_9 : decode (mm_cb 25) 9 = .ok (.getfield 18, 3) := by decide +kernel
theorem d25_12 : decode (mm_cb 25) 12 = .ok (.iload_n 1, 1) := by decide +kernel
theorem d25_13 : decode (mm_cb 25) 13 = .ok (.invokevirtual 36, 3) := by decide +kernel
theorem d25_16 : decode (mm_cb 25) 16 = .ok (.if_icmp .ge 33, 3) := by decide +kernel
theorem d25_19 : decode (mm_cb 25) 19 = .ok (.lload 4, 2) := by decide +kernel
theorem d25_21 : decode (mm_cb 25) 21 = .ok (.aload_n 0, 1) := by decide +kernel
theorem d25_22 : decode (mm_cb 25) 22 = .ok (.aload_n 0, 1) := by decide +kernel
theorem d25_23 : decode (mm_cb 25) 23 = .ok (.getfield 18, 3) := by decide +kernel
theorem d25_26 : decode (mm_cb 25) 26 = .ok (.iload_n 1, 1) := by decide +kernel
theorem d25_27 : decode (mm_cb 25) 27 = .ok (.iload 6, 2) := by decide +kernel
theorem d25_29 : decode (mm_cb 25) 29 = .ok (.invokevirtual 47, 3) := by decide +kernel
theorem d25_32 : decode (mm_cb 25) 32 = .ok (.iload_n 3, 1) := by decide +kernel
theorem d25_33 : decode (mm_cb 25) 33 = .ok (.iconst 1, 1) := by decide +kernel
theorem d25_34 : decode (mm_cb 25) 34 = .ok (.isub, 1) := by decide +kernel
theorem d25_35 : decode (mm_cb 25) 35 = .ok (.invokevirtual 50, 3) := by decide +kernel
theorem d25_38 : decode (mm_cb 25) 38 = .ok (.invokestatic 54, 3) := by decide +kernel
theorem d25_41 : decode (mm_cb 25) 41 = .ok (.lstore 4, 2) := by decide +kernel
theorem d25_43 : decode (mm_cb 25) 43 = .ok (.iinc 6 1, 3) := by decide +kernel
theorem d25_46 : decode (mm_cb 25) 46 = .ok (.goto (-40), 3) := by decide +kernel
theorem d25_49 : decode (mm_cb 25) 49 = .ok (.lload 4, 2) := by decide +kernel
theorem d25_51 : decode (mm_cb 25) 51 = .ok (.lreturn, 1) := by decide +kernel
theorem d26_0 : decode (mm_cb 26) 0 = .ok (.aload_n 0, 1) := by decide +kernel
theorem d26_1 : decode (mm_cb 26) 1 = .ok (.getfield 18, 3) := by decide +kernel
theorem d26_4 : decode (mm_cb 26) 4 = .ok (.iload_n 1, 1) := by decide +kernel
theorem d26_5 : decode (mm_cb 26) 5 = .ok (.iconst 3, 1) := by decide +kernel
theorem d26_6 : decode (mm_cb 26) 6 = .ok (.imul, 1) := by decide +kernel
theorem d26_7 : decode (mm_cb 26) 7 = .ok (.iload_n 2, 1) := by decide +kernel
theorem d26_8 : decode (mm_cb 26) 8 = .ok (.iadd, 1) := by decide +kernel
theorem d26_9 : decode (mm_cb 26) 9 = .ok (.iaload, 1) := by decide +kernel
theorem d26_10 : decode (mm_cb 26) 10 = .ok (.ireturn, 1) := by decide +kernel
theorem d27_0 : decode (mm_cb 27) 0 = .ok (.aload_n 0, 1) := by decide +kernel
theorem d27_1 : decode (mm_cb 27) 1 = .ok (.getfield 11, 3) := by decide +kernel
theorem d27_4 : decode (mm_cb 27) 4 = .ok (.iload_n 1, 1) := by decide +kernel
theorem d27_5 : decode (mm_cb 27) 5 = .ok (.iconst 5, 1) := by decide +kernel
theorem d27_6 : decode (mm_cb 27) 6 = .ok (.imul, 1) := by decide +kernel
theorem d27_7 : decode (mm_cb 27) 7 = .ok (.iload_n 2, 1) := by decide +kernel
theorem d27_8 : decode (mm_cb 27) 8 = .ok (.iadd, 1) := by decide +kernel
theorem d27_9 : decode (mm_cb 27) 9 = .ok (.laload, 1) := by decide +kernel
theorem d27_10 : decode (mm_cb 27) 10 = .ok (.lreturn, 1) := by decide +kernel
theorem d28_0 : decode (mm_cb 28) 0 = .ok (.lload_n 2, 1) := by decide +kernel
theorem d28_1 : decode (mm_cb 28) 1 = .ok (.lconst 0, 1) := by decide +kernel
theorem d28_2 : decode (mm_cb 28) 2 = .ok (.lcmp, 1) := by decide +kernel
theorem d28_3 : decode (mm_cb 28) 3 = .ok (.ifCond .ne 5, 3) := by decide +kernel
theorem d28_6 : decode (mm_cb 28) 6 = .ok (.lconst 0, 1) := by decide +kernel
theorem d28_7 : decode (mm_cb 28) 7 = .ok (.lreturn, 1) := by decide +kernel
theorem d28_8 : decode (mm_cb 28) 8 = .ok (.lload_n 0, 1) := by decide +kernel
theorem d28_9 : decode (mm_cb 28) 9 = .ok (.ldc2_w 238, 3) := by decide +kernel
theorem d28_12 : decode (mm_cb 28) 12 = .ok (.lload_n 2, 1) := by decide +kernel
theorem d28_13 : decode (mm_cb 28) 13 = .ok (.ldiv, 1) := by decide +kernel
theorem d28_14 : decode (mm_cb 28) 14 = .ok (.lcmp, 1) := by decide +kernel
theorem d28_15 : decode (mm_cb 28) 15 = .ok (.ifCond .le 9, 3) := by decide +kernel
theorem d28_18 : decode (mm_cb 28) 18 = .ok (.ldc2_w 238, 3) := by decide +kernel
theorem d28_21 : decode (mm_cb 28) 21 = .ok (.goto 6, 3) := by decide +kernel
theorem d28_24 : decode (mm_cb 28) 24 = .ok (.lload_n 0, 1) := by decide +kernel
theorem d28_25 : decode (mm_cb 28) 25 = .ok (.lload_n 2, 1) := by decide +kernel
theorem d28_26 : decode (mm_cb 28) 26 = .ok (.lmul, 1) := by decide +kernel
theorem d28_27 : decode (mm_cb 28) 27 = .ok (.lreturn, 1) := by decide +kernel
theorem d29_0 : decode (mm_cb 29) 0 = .ok (.lload_n 0, 1) := by decide +kernel
theorem d29_1 : decode (mm_cb 29) 1 = .ok (.lload_n 2, 1) := by decide +kernel
theorem d29_2 : decode (mm_cb 29) 2 = .ok (.ladd, 1) := by decide +kernel
theorem d29_3 : decode (mm_cb 29) 3 = .ok (.ldc2_w 238, 3) := by decide +kernel
theorem d29_6 : decode (mm_cb 29) 6 = .ok (.invokestatic 240, 3) := by decide +kernel
theorem d29_9 : decode (mm_cb 29) 9 = .ok (.lreturn, 1) := by decide +kernel
theorem d30_0 : decode (mm_cb 30) 0 = .ok (.iconst 0, 1) := by decide +kernel
theorem d30_1 : decode (mm_cb 30) 1 = .ok (.istore_n 1, 1) := by decide +kernel
theorem d30_2 : decode (mm_cb 30) 2 = .ok (.iload_n 1, 1) := by decide +kernel
theorem d30_3 : decode (mm_cb 30) 3 = .ok (.bipush 12, 2) := by decide +kernel
theorem d30_5 : decode (mm_cb 30) 5 = .ok (.if_icmp .ge 29, 3) := by decide +kernel
theorem d30_8 : decode (mm_cb 30) 8 = .ok (.iconst 0, 1) := by decide +kernel
theorem d30_9 : decode (mm_cb 30) 9 = .ok (.istore_n 2, 1) := by decide +kernel
theorem d30_10 : decode (mm_cb 30) 10 = .ok (.iload_n 2, 1) := by decide +kernel
theorem d30_11 : decode (mm_cb 30) 11 = .ok (.bipush 6, 2) := by decide +kernel
theorem d30_13 : decode (mm_cb 30) 13 = .ok (.if_icmp .ge 15, 3) := by decide +kernel
theorem d30_16 : decode (mm_cb 30) 16 = .ok (.aload_n 0, 1) := by decide +kernel
theorem d30_17 : decode (mm_cb 30) 17 = .ok (.iload_n 2, 1) := by decide +kernel
theorem d30_18 : decode (mm_cb 30) 18 = .ok (.iload_n 1, 1) := by decide +kernel
theorem d30_19 : decode (mm_cb 30) 19 = .ok (.invokevirtual 22, 3) := by decide +kernel
theorem d30_22 : decode (mm_cb 30) 22 = .ok (.iinc 2 1, 3) := by decide +kernel
theorem d30_25 : decode (mm_cb 30) 25 = .ok (.goto (-15), 3) := by decide +kernel
theorem d30_28 : decode (mm_cb 30) 28 = .ok (.iinc 1 1, 3) := by decide +kernel
theorem d30_31 : decode (mm_cb 30) 31 = .ok (.goto (-29), 3) := by decide +kernel
theorem d30_34 : decode (mm_cb 30) 34 = .ok (.return_, 1) := by decide +kernel
theorem d31_0 : decode (mm_cb 31) 0 = .ok (.lconst 0, 1) := by decide +kernel
theorem d31_1 : decode (mm_cb 31) 1 = .ok (.lstore_n 3, 1) := by decide +kernel
theorem d31_2 : decode (mm_cb 31) 2 = .ok (.iconst 0, 1) := by decide +kernel
theorem d31_3 : decode (mm_cb 31) 3 = .ok (.istore 5, 2) := by decide +kernel
theorem d31_5 : decode (mm_cb 31) 5 = .ok (.iload 5, 2) := by decide +kernel
theorem d31_7 : decode (mm_cb 31) 7 = .ok (.aload_n 0, 1) := by decide +kernel
theorem d31_8 : decode (mm_cb 31) 8 = .ok (.getfield 18, 3) := by decide +kernel
theorem d31_11 : decode (mm_cb 31) 11 = .ok (.iload_n 1, 1) := by decide +kernel
theorem d31_12 : decode (mm_cb 31) 12 = .ok (.invokevirtual 26, 3) := by decide +kernel
theorem d31_15 : decode (mm_cb 31) 15 = .ok (.if_icmp .ge 76, 3) := by decide +kernel
theorem d31_18 : decode (mm_cb 31) 18 = .ok (.iload_n 1, 1) := by decide +kernel
theorem d31_19 : decode (mm_cb 31) 19 = .ok (.iload 5, 2) := by decide +kernel
theorem d31_21 : decode (mm_cb 31) 21 = .ok (.invokestatic 32, 3) := by decide +kernel
theorem d31_24 : decode (mm_cb 31) 24 = .ok (.istore 6, 2) := by decide +kernel
theorem d31_26 : decode (mm_cb 31) 26 = .ok (.aload_n 0, 1) := by decide +kernel
theorem d31_27 : decode (mm_cb 31) 27 = .ok (.getfield 18, 3) := by decide +kernel
theorem d31_30 : decode (mm_cb 31) 30 = .ok (.iload 6, 2) := by decide +kernel
theorem d31_32 : decode (mm_cb 31) 32 = .ok (.invokevirtual 36, 3) := by decide +kernel
theorem d31_35 : decode (mm_cb 31) 35 = .ok (.istore 7, 2) := by decide +kernel
theorem d31_37 : decode (mm_cb 31) 37 = .ok (.iload 7, 2) := by decide +kernel
theorem d31_39 : decode (mm_cb 31) 39 = .ok (.ifCond .lt 35, 3) := by decide +kernel
theorem d31_42 : decode (mm_cb 31) 42 = .ok (.aload_n 0, 1) := by decide +kernel
theorem d31_43 : decode (mm_cb 31) 43 = .ok (.getfield 15, 3) := by decide +kernel
theorem d31_46 : decode (mm_cb 31) 46 = .ok (.iload 6, 2) := by decide +kernel
theorem d31_48 : decode (mm_cb 31) 48 = .ok (.iconst 4, 1) := by decide +kernel
theorem d31_49 : decode (mm_cb 31) 49 = .ok (.imul, 1) := by decide +kernel
theorem d31_50 : decode (mm_cb 31) 50 = .ok (.iload 7, 2) := by decide +kernel
theorem d31_52 : decode (mm_cb 31) 52 = .ok (.iadd, 1) := by decide +kernel
theorem d31_53 : decode (mm_cb 31) 53 = .ok (.bipush 13, 2) := by decide +kernel
theorem d31_55 : decode (mm_cb 31) 55 = .ok (.imul, 1) := by decide +kernel
theorem d31_56 : decode (mm_cb 31) 56 = .ok (.iload_n 2, 1) := by decide +kernel
theorem d31_57 : decode (mm_cb 31) 57 = .ok (.iadd, 1) := by decide +kernel
theorem d31_58 : decode (mm_cb 31) 58 = .ok (.aload_n 0, 1) := by decide +kernel
theorem d31_59 : decode (mm_cb 31) 59 = .ok (.iload 6, 2) := by decide +kernel
theorem d31_61 : decode (mm_cb 31) 61 = .ok (.iload 7, 2) := by decide +kernel
theorem d31_63 : decode (mm_cb 31) 63 = .ok (.iload_n 2, 1) := by decide +kernel
theorem d31_64 : decode (mm_cb 31) 64 = .ok (.invokevirtual 39, 3) := by decide +kernel
theorem d31_67 : decode (mm_cb 31) 67 = .ok (.lastore, 1) := by decide +kernel
theorem d31_68 : decode (mm_cb 31) 68 = .ok (.iinc 7 (-1), 3) := by decide +kernel
theorem d31_71 : decode (mm_cb 31) 71 = .ok (.goto (-34), 3) := by decide +kernel
theorem d31_74 : decode (mm_cb 31) 74 = .ok (.lload_n 3, 1) := by decide +kernel
theorem d31_75 : decode (mm_cb 31) 75 = .ok (.aload_n 0, 1) := by decide +kernel
theorem d31_76 : decode (mm_cb 31) 76 = .ok (.iload 6, 2) := by decide +kernel
theorem d31_78 : decode (mm_cb 31) 78 = .ok (.iconst 0, 1) := by decide +kernel
theorem d31_79 : decode (mm_cb 31) 79 = .ok (.iload_n 2, 1) := by decide +kernel
theorem d31_80 : decode (mm_cb 31) 80 = .ok (.invokevirtual 43, 3) := by decide +kernel
theorem d31_83 : decode (mm_cb 31) 83 = .ok (.ladd, 1) := by decide +kernel
theorem d31_84 : decode (mm_cb 31) 84 = .ok (.lstore_n 3, 1) := by decide +kernel
theorem d31_85 : decode (mm_cb 31) 85 = .ok (.iinc 5 1, 3) := by decide +kernel
theorem d31_88 : decode (mm_cb 31) 88 = .ok (.goto (-83), 3) := by decide +kernel
theorem d31_91 : decode (mm_cb 31) 91 = .ok (.aload_n 0, 1) := by decide +kernel
theorem d31_92 : decode (mm_cb 31) 92 = .ok (.getfield 11, 3) := by decide +kernel
theorem d31_95 : decode (mm_cb 31) 95 = .ok (.iload_n 1, 1) := by decide +kernel
theorem d31_96 : decode (mm_cb 31) 96 = .ok (.bipush 13, 2) := by decide +kernel
theorem d31_98 : decode (mm_cb 31) 98 = .ok (.imul, 1) := by decide +kernel
theorem d31_99 : decode (mm_cb 31) 99 = .ok (.iload_n 2, 1) := by decide +kernel
theorem d31_100 : decode (mm_cb 31) 100 = .ok (.iadd, 1) := by decide +kernel
theorem d31_101 : decode (mm_cb 31) 101 = .ok (.iconst 1, 1) := by decide +kernel
theorem d31_102 : decode (mm_cb 31) 102 = .ok (.iadd, 1) := by decide +kernel
theorem d31_103 : decode (mm_cb 31) 103 = .ok (.lload_n 3, 1) := by decide +kernel
theorem d31_104 : decode (mm_cb 31) 104 = .ok (.lastore, 1) := by decide +kernel
theorem d31_105 : decode (mm_cb 31) 105 = .ok (.return_, 1) := by decide +kernel
theorem d32_0 : decode (mm_cb 32) 0 = .ok (.iload_n 2, 1) := by decide +kernel
theorem d32_1 : decode (mm_cb 32) 1 = .ok (.aload_n 0, 1) := by decide +kernel
theorem d32_2 : decode (mm_cb 32) 2 = .ok (.getfield 18, 3) := by decide +kernel
theorem d32_5 : decode (mm_cb 32) 5 = .ok (.iload_n 1, 1) := by decide +kernel
theorem d32_6 : decode (mm_cb 32) 6 = .ok (.invokevirtual 36, 3) := by decide +kernel
theorem d32_9 : decode (mm_cb 32) 9 = .ok (.if_icmp .ne 13, 3) := by decide +kernel
theorem d32_12 : decode (mm_cb 32) 12 = .ok (.iload_n 3, 1) := by decide +kernel
theorem d32_13 : decode (mm_cb 32) 13 = .ok (.ifCond .ne 7, 3) := by decide +kernel
theorem d32_16 : decode (mm_cb 32) 16 = .ok (.lconst 1, 1) := by decide +kernel
theorem d32_17 : decode (mm_cb 32) 17 = .ok (.goto 4, 3) := by decide +kernel
theorem d32_20 : decode (mm_cb 32) 20 = .ok (.lconst 0, 1) := by decide +kernel
theorem d32_21 : decode (mm_cb 32) 21 = .ok (.lreturn, 1) := by decide +kernel
theorem d32_22 : decode (mm_cb 32) 22 = .ok (.lconst 0, 1) := by decide +kernel
theorem d32_23 : decode (mm_cb 32) 23 = .ok (.lstore 4, 2) := by decide +kernel
theorem d32_25 : decode (mm_cb 32) 25 = .ok (.iconst 1, 1) := by decide +kernel
theorem d32_26 : decode (mm_cb 32) 26 = .ok (.istore 6, 2) := by decide +kernel
theorem d32_28 : decode (mm_cb 32) 28 = .ok (.iload 6, 2) := by decide +kernel
theorem d32_30 : decode (mm_cb 32) 30 = .ok (.iload_n 3, 1) := by decide +kernel
theorem d32_31 : decode (mm_cb 32) 31 = .ok (.if_icmp .gt 42, 3) := by decide +kernel
theorem d32_34 : decode (mm_cb 32) 34 = .ok (.lload 4, 2) := by decide +kernel
theorem d32_36 : decode (mm_cb 32) 36 = .ok (.aload_n 0, 1) := by decide +kernel
theorem d32_37 : decode (mm_cb 32) 37 = .ok (.aload_n 0, 1) := by decide +kernel
theorem d32_38 : decode (mm_cb 32) 38 = .ok (.getfield 18, 3) := by decide +kernel
theorem d32_41 : decode (mm_cb 32) 41 = .ok (.iload_n 1, 1) := by decide +kernel
theorem d32_42 : decode (mm_cb 32) 42 = .ok (.iload_n 2, 1) := by decide +kernel
theorem d32_43 : decode (mm_cb 32) 43 = .ok (.invokevirtual 46, 3) := by decide +kernel
theorem d32_46 : decode (mm_cb 32) 46 = .ok (.iload 6, 2) := by decide +kernel
theorem d32_48 : decode (mm_cb 32) 48 = .ok (.invokevirtual 49, 3) := by decide +kernel
theorem d32_51 : decode (mm_cb 32) 51 = .ok (.aload_n 0, 1) := by decide +kernel
theorem d32_52 : decode (mm_cb 32) 52 = .ok (.iload_n 1, 1) := by decide +kernel
theorem d32_53 : decode (mm_cb 32) 53 = .ok (.iload_n 2, 1) := by decide +kernel
theorem d32_54 : decode (mm_cb 32) 54 = .ok (.iconst 1, 1) := by decide +kernel
theorem d32_55 : decode (mm_cb 32) 55 = .ok (.iadd, 1) := by decide +kernel
theorem d32_56 : decode (mm_cb 32) 56 = .ok (.iload_n 3, 1) := by decide +kernel
theorem d32_57 : decode (mm_cb 32) 57 = .ok (.iload 6, 2) := by decide +kernel
theorem d32_59 : decode (mm_cb 32) 59 = .ok (.isub, 1) := by decide +kernel
theorem d32_60 : decode (mm_cb 32) 60 = .ok (.invokevirtual 43, 3) := by decide +kernel
theorem d32_63 : decode (mm_cb 32) 63 = .ok (.lmul, 1) := by decide +kernel
theorem d32_64 : decode (mm_cb 32) 64 = .ok (.ladd, 1) := by decide +kernel
theorem d32_65 : decode (mm_cb 32) 65 = .ok (.lstore 4, 2) := by decide +kernel
theorem d32_67 : decode (mm_cb 32) 67 = .ok (.iinc 6 1, 3) := by decide +kernel
theorem d32_70 : decode (mm_cb 32) 70 = .ok (.goto (-42), 3) := by decide +kernel
theorem d32_73 : decode (mm_cb 32) 73 = .ok (.lload 4, 2) := by decide +kernel
theorem d32_75 : decode (mm_cb 32) 75 = .ok (.lreturn, 1) := by decide +kernel
theorem d33_0 : decode (mm_cb 33) 0 = .ok (.aload_n 0, 1) := by decide +kernel
theorem d33_1 : decode (mm_cb 33) 1 = .ok (.getfield 11, 3) := by decide +kernel
theorem d33_4 : decode (mm_cb 33) 4 = .ok (.iload_n 1, 1) := by decide +kernel
theorem d33_5 : decode (mm_cb 33) 5 = .ok (.bipush 13, 2) := by decide +kernel
theorem d33_7 : decode (mm_cb 33) 7 = .ok (.imul, 1) := by decide +kernel
theorem d33_8 : decode (mm_cb 33) 8 = .ok (.iload_n 2, 1) := by decide +kernel
theorem d33_9 : decode (mm_cb 33) 9 = .ok (.iadd, 1) := by decide +kernel
theorem d33_10 : decode (mm_cb 33) 10 = .ok (.laload, 1) := by decide +kernel
theorem d33_11 : decode (mm_cb 33) 11 = .ok (.lreturn, 1) := by decide +kernel
theorem d34_0 : decode (mm_cb 34) 0 = .ok (.aload_n 0, 1) := by decide +kernel
theorem d34_1 : decode (mm_cb 34) 1 = .ok (.getfield 15, 3) := by decide +kernel
theorem d34_4 : decode (mm_cb 34) 4 = .ok (.iload_n 1, 1) := by decide +kernel
theorem d34_5 : decode (mm_cb 34) 5 = .ok (.iconst 4, 1) := by decide +kernel
theorem d34_6 : decode (mm_cb 34) 6 = .ok (.imul, 1) := by decide +kernel
theorem d34_7 : decode (mm_cb 34) 7 = .ok (.iload_n 2, 1) := by decide +kernel
theorem d34_8 : decode (mm_cb 34) 8 = .ok (.iadd, 1) := by decide +kernel
theorem d34_9 : decode (mm_cb 34) 9 = .ok (.bipush 13, 2) := by decide +kernel
theorem d34_11 : decode (mm_cb 34) 11 = .ok (.imul, 1) := by decide +kernel
theorem d34_12 : decode (mm_cb 34) 12 = .ok (.iload_n 3, 1) := by decide +kernel
theorem d34_13 : decode (mm_cb 34) 13 = .ok (.iadd, 1) := by decide +kernel
theorem d34_14 : decode (mm_cb 34) 14 = .ok (.laload, 1) := by decide +kernel
theorem d34_15 : decode (mm_cb 34) 15 = .ok (.lreturn, 1) := by decide +kernel
theorem d35_0 : decode (mm_cb 35) 0 = .ok (.aload_n 3, 1) := by decide +kernel
theorem d35_1 : decode (mm_cb 35) 1 = .ok (.iconst 0, 1) := by decide +kernel
theorem d35_2 : decode (mm_cb 35) 2 = .ok (.aload_n 0, 1) := by decide +kernel
theorem d35_3 : decode (mm_cb 35) 3 = .ok (.iload_n 1, 1) := by decide +kernel
theorem d35_4 : decode (mm_cb 35) 4 = .ok (.iload_n 2, 1) := by decide +kernel
theorem d35_5 : decode (mm_cb 35) 5 = .ok (.invokevirtual 19, 3) := by decide +kernel
theorem d35_8 : decode (mm_cb 35) 8 = .ok (.lastore, 1) := by decide +kernel
theorem d35_9 : decode (mm_cb 35) 9 = .ok (.goto 11, 3) := by decide +kernel
theorem d35_12 : decode (mm_cb 35) 12 = .ok (.astore 4, 2) := by decide +kernel
theorem d35_14 : decode (mm_cb 35) 14 = .ok (.iconst 1, 1) := by decide +kernel
theorem d35_15 : decode (mm_cb 35) 15 = .ok (.ireturn, 1) := by decide +kernel
theorem d35_16 : decode (mm_cb 35) 16 = .ok (.astore 4, 2) := by decide +kernel
theorem d35_18 : decode (mm_cb 35) 18 = .ok (.iconst 2, 1) := by decide +kernel
theorem d35_19 : decode (mm_cb 35) 19 = .ok (.ireturn, 1) := by decide +kernel
theorem d35_20 : decode (mm_cb 35) 20 = .ok (.iconst 0, 1) := by decide +kernel
theorem d35_21 : decode (mm_cb 35) 21 = .ok (.ireturn, 1) := by decide +kernel
theorem d36_0 : decode (mm_cb 36) 0 = .ok (.iload_n 1, 1) := by decide +kernel
theorem d36_1 : decode (mm_cb 36) 1 = .ok (.invokestatic 81, 3) := by decide +kernel
theorem d36_4 : decode (mm_cb 36) 4 = .ok (.iload_n 2, 1) := by decide +kernel
theorem d36_5 : decode (mm_cb 36) 5 = .ok (.invokestatic 113, 3) := by decide +kernel
theorem d36_8 : decode (mm_cb 36) 8 = .ok (.aload_n 0, 1) := by decide +kernel
theorem d36_9 : decode (mm_cb 36) 9 = .ok (.getfield 21, 3) := by decide +kernel
theorem d36_12 : decode (mm_cb 36) 12 = .ok (.iload_n 1, 1) := by decide +kernel
theorem d36_13 : decode (mm_cb 36) 13 = .ok (.iload_n 2, 1) := by decide +kernel
theorem d36_14 : decode (mm_cb 36) 14 = .ok (.invokevirtual 116, 3) := by decide +kernel
theorem d36_17 : decode (mm_cb 36) 17 = .ok (.lreturn, 1) := by decide +kernel
theorem d37_0 : decode (mm_cb 37) 0 = .ok (.iload_n 0, 1) := by decide +kernel
theorem d37_1 : decode (mm_cb 37) 1 = .ok (.ifCond .lt 8, 3) := by decide +kernel
theorem d37_4 : decode (mm_cb 37) 4 = .ok (.iload_n 0, 1) := by decide +kernel
theorem d37_5 : decode (mm_cb 37) 5 = .ok (.iconst 4, 1) := by decide +kernel
theorem d37_6 : decode (mm_cb 37) 6 = .ok (.if_icmp .le 13, 3) := by decide +kernel
theorem d37_9 : decode (mm_cb 37) 9 = .ok (.new 85, 3) := by decide +kernel
theorem d37_12 : decode (mm_cb 37) 12 = .ok (.dup, 1) := by decide +kernel
theorem d37_13 : decode (mm_cb 37) 13 = .ok (.ldc 217, 2) := by decide +kernel
theorem d37_15 : decode (mm_cb 37) 15 = .ok (.invokespecial 89, 3) := by decide +kernel
theorem d37_18 : decode (mm_cb 37) 18 = .ok (.athrow, 1) := by decide +kernel
theorem d37_19 : decode (mm_cb 37) 19 = .ok (.return_, 1) := by decide +kernel
theorem d38_0 : decode (mm_cb 38) 0 = .ok (.aload 5, 2) := by decide +kernel
theorem d38_2 : decode (mm_cb 38) 2 = .ok (.iconst 0, 1) := by decide +kernel
theorem d38_3 : decode (mm_cb 38) 3 = .ok (.aload_n 0, 1) := by decide +kernel
theorem d38_4 : decode (mm_cb 38) 4 = .ok (.iload_n 1, 1) := by decide +kernel
theorem d38_5 : decode (mm_cb 38) 5 = .ok (.iload_n 2, 1) := by decide +kernel
theorem d38_6 : decode (mm_cb 38) 6 = .ok (.lload_n 3, 1) := by decide +kernel
theorem d38_7 : decode (mm_cb 38) 7 = .ok (.invokevirtual 23, 3) := by decide +kernel
theorem d38_10 : decode (mm_cb 38) 10 = .ok (.i2l, 1) := by decide +kernel
theorem d38_11 : decode (mm_cb 38) 11 = .ok (.lastore, 1) := by decide +kernel
theorem d38_12 : decode (mm_cb 38) 12 = .ok (.goto 15, 3) := by decide +kernel
theorem d38_15 : decode (mm_cb 38) 15 = .ok (.astore 6, 2) := by decide +kernel
theorem d38_17 : decode (mm_cb 38) 17 = .ok (.iconst 1, 1) := by decide +kernel
theorem d38_18 : decode (mm_cb 38) 18 = .ok (.ireturn, 1) := by decide +kernel
theorem d38_19 : decode (mm_cb 38) 19 = .ok (.astore 6, 2) := by decide +kernel
theorem d38_21 : decode (mm_cb 38) 21 = .ok (.iconst 2, 1) := by decide +kernel
theorem d38_22 : decode (mm_cb 38) 22 = .ok (.ireturn, 1) := by decide +kernel
theorem d38_23 : decode (mm_cb 38) 23 = .ok (.astore 6, 2) := by decide +kernel
theorem d38_25 : decode (mm_cb 38) 25 = .ok (.iconst 3, 1) := by decide +kernel
theorem d38_26 : decode (mm_cb 38) 26 = .ok (.ireturn, 1) := by decide +kernel
theorem d38_27 : decode (mm_cb 38) 27 = .ok (.iconst 0, 1) := by decide +kernel
theorem d38_28 : decode (mm_cb 38) 28 = .ok (.ireturn, 1) := by decide +kernel
theorem d39_0 : decode (mm_cb 39) 0 = .ok (.iload_n 1, 1) := by decide +kernel
theorem d39_1 : decode (mm_cb 39) 1 = .ok (.invokestatic 81, 3) := by decide +kernel
theorem d39_4 : decode (mm_cb 39) 4 = .ok (.iload_n 2, 1) := by decide +kernel
theorem d39_5 : decode (mm_cb 39) 5 = .ok (.invokestatic 113, 3) := by decide +kernel
theorem d39_8 : decode (mm_cb 39) 8 = .ok (.lload_n 3, 1) := by decide +kernel
theorem d39_9 : decode (mm_cb 39) 9 = .ok (.aload_n 0, 1) := by decide +kernel
theorem d39_10 : decode (mm_cb 39) 10 = .ok (.getfield 21, 3) := by decide +kernel
theorem d39_13 : decode (mm_cb 39) 13 = .ok (.iload_n 1, 1) := by decide +kernel
theorem d39_14 : decode (mm_cb 39) 14 = .ok (.iload_n 2, 1) := by decide +kernel
theorem d39_15 : decode (mm_cb 39) 15 = .ok (.invokevirtual 116, 3) := by decide +kernel
theorem d39_18 : decode (mm_cb 39) 18 = .ok (.invokestatic 120, 3) := by decide +kernel
theorem d39_21 : decode (mm_cb 39) 21 = .ok (.aload_n 0, 1) := by decide +kernel
theorem d39_22 : decode (mm_cb 39) 22 = .ok (.getfield 44, 3) := by decide +kernel
theorem d39_25 : decode (mm_cb 39) 25 = .ok (.iload_n 1, 1) := by decide +kernel
theorem d39_26 : decode (mm_cb 39) 26 = .ok (.iload_n 2, 1) := by decide +kernel
theorem d39_27 : decode (mm_cb 39) 27 = .ok (.lload_n 3, 1) := by decide +kernel
theorem d39_28 : decode (mm_cb 39) 28 = .ok (.invokevirtual 124, 3) := by decide +kernel
theorem d39_31 : decode (mm_cb 39) 31 = .ok (.aload_n 0, 1) := by decide +kernel
theorem d39_32 : decode (mm_cb 39) 32 = .ok (.getfield 44, 3) := by decide +kernel
theorem d39_35 : decode (mm_cb 39) 35 = .ok (.aload_n 0, 1) := by decide +kernel
theorem d39_36 : decode (mm_cb 39) 36 = .ok (.getfield 35, 3) := by decide +kernel
theorem d39_39 : decode (mm_cb 39) 39 = .ok (.invokevirtual 128, 3) := by decide +kernel
theorem d39_42 : decode (mm_cb 39) 42 = .ok (.aload_n 0, 1) := by decide +kernel
theorem d39_43 : decode (mm_cb 39) 43 = .ok (.getfield 35, 3) := by decide +kernel
theorem d39_46 : decode (mm_cb 39) 46 = .ok (.invokevirtual 132, 3) := by decide +kernel
theorem d39_49 : decode (mm_cb 39) 49 = .ok (.ireturn, 1) := by decide +kernel
theorem d40_0 : decode (mm_cb 40) 0 = .ok (.lload_n 0, 1) := by decide +kernel
theorem d40_1 : decode (mm_cb 40) 1 = .ok (.lconst 0, 1) := by decide +kernel
theorem d40_2 : decode (mm_cb 40) 2 = .ok (.lcmp, 1) := by decide +kernel
theorem d40_3 : decode (mm_cb 40) 3 = .ok (.ifCond .lt 9, 3) := by decide +kernel
theorem d40_6 : decode (mm_cb 40) 6 = .ok (.lload_n 0, 1) := by decide +kernel
theorem d40_7 : decode (mm_cb 40) 7 = .ok (.lload_n 2, 1) := by decide +kernel
theorem d40_8 : decode (mm_cb 40) 8 = .ok (.lcmp, 1) := by decide +kernel
theorem d40_9 : decode (mm_cb 40) 9 = .ok (.ifCond .lt 13, 3) := by decide +kernel
theorem d40_12 : decode (mm_cb 40) 12 = .ok (.new 100, 3) := by decide +kernel
theorem d40_15 : decode (mm_cb 40) 15 = .ok (.dup, 1) := by decide +kernel
theorem d40_16 : decode (mm_cb 40) 16 = .ok (.ldc 221, 2) := by decide +kernel
theorem d40_18 : decode (mm_cb 40) 18 = .ok (.invokespecial 104, 3) := by decide +kernel
theorem d40_21 : decode (mm_cb 40) 21 = .ok (.athrow, 1) := by decide +kernel
theorem d40_22 : decode (mm_cb 40) 22 = .ok (.return_, 1) := by decide +kernel
theorem d41_0 : decode (mm_cb 41) 0 = .ok (.aload_n 0, 1) := by decide +kernel
theorem d41_1 : decode (mm_cb 41) 1 = .ok (.getfield 9, 3) := by decide +kernel
theorem d41_4 : decode (mm_cb 41) 4 = .ok (.iconst 0, 1) := by decide +kernel
theorem d41_5 : decode (mm_cb 41) 5 = .ok (.iload_n 1, 1) := by decide +kernel
theorem d41_6 : decode (mm_cb 41) 6 = .ok (.iastore, 1) := by decide +kernel
theorem d41_7 : decode (mm_cb 41) 7 = .ok (.aload_n 0, 1) := by decide +kernel
theorem d41_8 : decode (mm_cb 41) 8 = .ok (.iconst 0, 1) := by decide +kernel
theorem d41_9 : decode (mm_cb 41) 9 = .ok (.iload_n 2, 1) := by decide +kernel
theorem d41_10 : decode (mm_cb 41) 10 = .ok (.lload_n 3, 1) := by decide +kernel
theorem d41_11 : decode (mm_cb 41) 11 = .ok (.invokevirtual 33, 3) := by decide +kernel
theorem d41_14 : decode (mm_cb 41) 14 = .ok (.return_, 1) := by decide +kernel
theorem d42_0 : decode (mm_cb 42) 0 = .ok (.aload_n 0, 1) := by decide +kernel
theorem d42_1 : decode (mm_cb 42) 1 = .ok (.getfield 9, 3) := by decide +kernel
theorem d42_4 : decode (mm_cb 42) 4 = .ok (.iload_n 1, 1) := by decide +kernel
theorem d42_5 : decode (mm_cb 42) 5 = .ok (.iaload, 1) := by decide +kernel
theorem d42_6 : decode (mm_cb 42) 6 = .ok (.istore 5, 2) := by decide +kernel
theorem d42_8 : decode (mm_cb 42) 8 = .ok (.lload_n 3, 1) := by decide +kernel
theorem d42_9 : decode (mm_cb 42) 9 = .ok (.lstore 6, 2) := by decide +kernel
theorem d42_11 : decode (mm_cb 42) 11 = .ok (.iconst 0, 1) := by decide +kernel
theorem d42_12 : decode (mm_cb 42) 12 = .ok (.istore 8, 2) := by decide +kernel
theorem d42_14 : decode (mm_cb 42) 14 = .ok (.iload 8, 2) := by decide +kernel
theorem d42_16 : decode (mm_cb 42) 16 = .ok (.aload_n 0, 1) := by decide +kernel
theorem d42_17 : decode (mm_cb 42) 17 = .ok (.getfield 21, 3) := by decide +kernel
theorem d42_20 : decode (mm_cb 42) 20 = .ok (.iload 5, 2) := by decide +kernel
theorem d42_22 : decode (mm_cb 42) 22 = .ok (.invokevirtual 37, 3) := by decide +kernel
theorem d42_25 : decode (mm_cb 42) 25 = .ok (.iconst 1, 1) := by decide +kernel
theorem d42_26 : decode (mm_cb 42) 26 = .ok (.isub, 1) := by decide +kernel
theorem d42_27 : decode (mm_cb 42) 27 = .ok (.if_icmp .ge 50, 3) := by decide +kernel
theorem d42_30 : decode (mm_cb 42) 30 = .ok (.lload 6, 2) := by decide +kernel
theorem d42_32 : decode (mm_cb 42) 32 = .ok (.aload_n 0, 1) := by decide +kernel
theorem d42_33 : decode (mm_cb 42) 33 = .ok (.getfield 25, 3) := by decide +kernel
theorem d42_36 : decode (mm_cb 42) 36 = .ok (.iload 5, 2) := by decide +kernel
theorem d42_38 : decode (mm_cb 42) 38 = .ok (.iload 8, 2) := by decide +kernel
theorem d42_40 : decode (mm_cb 42) 40 = .ok (.invokestatic 43, 3) := by decide +kernel
theorem d42_43 : decode (mm_cb 42) 43 = .ok (.iload_n 2, 1) := by decide +kernel
theorem d42_44 : decode (mm_cb 42) 44 = .ok (.invokevirtual 47, 3) := by decide +kernel
theorem d42_47 : decode (mm_cb 42) 47 = .ok (.lcmp, 1) := by decide +kernel
theorem d42_48 : decode (mm_cb 42) 48 = .ok (.ifCond .lt 29, 3) := by decide +kernel
theorem d42_51 : decode (mm_cb 42) 51 = .ok (.lload 6, 2) := by decide +kernel
theorem d42_53 : decode (mm_cb 42) 53 = .ok (.aload_n 0, 1) := by decide +kernel
theorem d42_54 : decode (mm_cb 42) 54 = .ok (.getfield 25, 3) := by decide +kernel
theorem d42_57 : decode (mm_cb 42) 57 = .ok (.iload 5, 2) := by decide +kernel
theorem d42_59 : decode (mm_cb 42) 59 = .ok (.iload 8, 2) := by decide +kernel
theorem d42_61 : decode (mm_cb 42) 61 = .ok (.invokestatic 43, 3) := by decide +kernel
theorem d42_64 : decode (mm_cb 42) 64 = .ok (.iload_n 2, 1) := by decide +kernel
theorem d42_65 : decode (mm_cb 42) 65 = .ok (.invokevirtual 47, 3) := by decide +kernel
theorem d42_68 : decode (mm_cb 42) 68 = .ok (.lsub, 1) := by decide +kernel
theorem d42_69 : decode (mm_cb 42) 69 = .ok (.lstore 6, 2) := by decide +kernel
theorem d42_71 : decode (mm_cb 42) 71 = .ok (.iinc 8 1, 3) := by decide +kernel
theorem d42_74 : decode (mm_cb 42) 74 = .ok (.goto (-60), 3) := by decide +kernel
theorem d42_77 : decode (mm_cb 42) 77 = .ok (.aload_n 0, 1) := by decide +kernel
theorem d42_78 : decode (mm_cb 42) 78 = .ok (.iload_n 1, 1) := by decide +kernel
theorem d42_79 : decode (mm_cb 42) 79 = .ok (.iload 8, 2) := by decide +kernel
theorem d42_81 : decode (mm_cb 42) 81 = .ok (.invokevirtual 53, 3) := by decide +kernel
theorem d42_84 : decode (mm_cb 42) 84 = .ok (.iload_n 2, 1) := by decide +kernel
theorem d42_85 : decode (mm_cb 42) 85 = .ok (.ifCond .ne 4, 3) := by decide +kernel
theorem d42_88 : decode (mm_cb 42) 88 = .ok (.return_, 1) := by decide +kernel
theorem d42_89 : decode (mm_cb 42) 89 = .ok (.iload 5, 2) := by decide +kernel
theorem d42_91 : decode (mm_cb 42) 91 = .ok (.iload 8, 2) := by decide +kernel
theorem d42_93 : decode (mm_cb 42) 93 = .ok (.invokestatic 43, 3) := by decide +kernel
theorem d42_96 : decode (mm_cb 42) 96 = .ok (.istore 9, 2) := by decide +kernel
theorem d42_98 : decode (mm_cb 42) 98 = .ok (.iconst 0, 1) := by decide +kernel
theorem d42_99 : decode (mm_cb 42) 99 = .ok (.istore 10, 2) := by decide +kernel
theorem d42_101 : decode (mm_cb 42) 101 = .ok (.iload 10, 2) := by decide +kernel
theorem d42_103 : decode (mm_cb 42) 103 = .ok (.aload_n 0, 1) := by decide +kernel
theorem d42_104 : decode (mm_cb 42) 104 = .ok (.getfield 18, 3) := by decide +kernel
theorem d42_107 : decode (mm_cb 42) 107 = .ok (.iload_n 1, 1) := by decide +kernel
theorem d42_108 : decode (mm_cb 42) 108 = .ok (.iaload, 1) := by decide +kernel
theorem d42_109 : decode (mm_cb 42) 109 = .ok (.if_icmp .ge 57, 3) := by decide +kernel
theorem d42_112 : decode (mm_cb 42) 112 = .ok (.aload_n 0, 1) := by decide +kernel
theorem d42_113 : decode (mm_cb 42) 113 = .ok (.getfield 25, 3) := by decide +kernel
theorem d42_116 : decode (mm_cb 42) 116 = .ok (.iload 9, 2) := by decide +kernel
theorem d42_118 : decode (mm_cb 42) 118 = .ok (.iload 10, 2) := by decide +kernel
theorem d42_120 : decode (mm_cb 42) 120 = .ok (.iconst 1, 1) := by decide +kernel
theorem d42_121 : decode (mm_cb 42) 121 = .ok (.iadd, 1) := by decide +kernel
theorem d42_122 : decode (mm_cb 42) 122 = .ok (.iload_n 2, 1) := by decide +kernel
theorem d42_123 : decode (mm_cb 42) 123 = .ok (.invokevirtual 57, 3) := by decide +kernel
theorem d42_126 : decode (mm_cb 42) 126 = .ok (.lstore 11, 2) := by decide +kernel
theorem d42_128 : decode (mm_cb 42) 128 = .ok (.lload 11, 2) := by decide +kernel
theorem d42_130 : decode (mm_cb 42) 130 = .ok (.lconst 0, 1) := by decide +kernel
theorem d42_131 : decode (mm_cb 42) 131 = .ok (.lcmp, 1) := by decide +kernel
theorem d42_132 : decode (mm_cb 42) 132 = .ok (.ifCond .le 28, 3) := by decide +kernel
theorem d42_135 : decode (mm_cb 42) 135 = .ok (.aload_n 0, 1) := by decide +kernel
theorem d42_136 : decode (mm_cb 42) 136 = .ok (.iload_n 1, 1) := by decide +kernel
theorem d42_137 : decode (mm_cb 42) 137 = .ok (.iload 10, 2) := by decide +kernel
theorem d42_139 : decode (mm_cb 42) 139 = .ok (.invokestatic 61, 3) := by decide +kernel
theorem d42_142 : decode (mm_cb 42) 142 = .ok (.iload_n 2, 1) := by decide +kernel
theorem d42_143 : decode (mm_cb 42) 143 = .ok (.iconst 1, 1) := by decide +kernel
theorem d42_144 : decode (mm_cb 42) 144 = .ok (.isub, 1) := by decide +kernel
theorem d42_145 : decode (mm_cb 42) 145 = .ok (.lload 6, 2) := by decide +kernel
theorem d42_147 : decode (mm_cb 42) 147 = .ok (.lload 11, 2) := by decide +kernel
theorem d42_149 : decode (mm_cb 42) 149 = .ok (.ldiv, 1) := by decide +kernel
theorem d42_150 : decode (mm_cb 42) 150 = .ok (.invokevirtual 33, 3) := by decide +kernel
