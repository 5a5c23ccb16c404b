/-! ===== decoded ===== -/
theorem d42_153 : decode (mm_cb 42) 153 = .ok (.lload 6, 2) := by decide +kernel
theorem d42_155 : decode (mm_cb 42) 155 = .ok (.lload 11, 2) := by decide +kernel
theorem d42_157 : decode (mm_cb 42) 157 = .ok (.lrem, 1) := by decide +kernel
theorem d42_158 : decode (mm_cb 42) 158 = .ok (.lstore 6, 2) := by decide +kernel
theorem d42_160 : decode (mm_cb 42) 160 = .ok (.iinc 10 1, 3) := by decide +kernel
theorem d42_163 : decode (mm_cb 42) 163 = .ok (.goto (-62), 3) := by decide +kernel
theorem d42_166 : decode (mm_cb 42) 166 = .ok (.return_, 1) := by decide +kernel
theorem d43_0 : decode (mm_cb 43) 0 = .ok (.aload_n 0, 1) := by decide +kernel
theorem d43_1 : decode (mm_cb 43) 1 = .ok (.getfield 15, 3) := by decide +kernel
theorem d43_4 : decode (mm_cb 43) 4 = .ok (.iload_n 1, 1) := by decide +kernel
theorem d43_5 : decode (mm_cb 43) 5 = .ok (.iconst 5, 1) := by decide +kernel
theorem d43_6 : decode (mm_cb 43) 6 = .ok (.imul, 1) := by decide +kernel
theorem d43_7 : decode (mm_cb 43) 7 = .ok (.iload_n 2, 1) := by decide +kernel
theorem d43_8 : decode (mm_cb 43) 8 = .ok (.iadd, 1) := by decide +kernel
theorem d43_9 : decode (mm_cb 43) 9 = .ok (.laload, 1) := by decide +kernel
theorem d43_10 : decode (mm_cb 43) 10 = .ok (.lreturn, 1) := by decide +kernel
theorem d44_0 : decode (mm_cb 44) 0 = .ok (.aload_n 0, 1) := by decide +kernel
theorem d44_1 : decode (mm_cb 44) 1 = .ok (.getfield 9, 3) := by decide +kernel
theorem d44_4 : decode (mm_cb 44) 4 = .ok (.iload_n 1, 1) := by decide +kernel
theorem d44_5 : decode (mm_cb 44) 5 = .ok (.iaload, 1) := by decide +kernel
theorem d44_6 : decode (mm_cb 44) 6 = .ok (.iload_n 2, 1) := by decide +kernel
theorem d44_7 : decode (mm_cb 44) 7 = .ok (.invokestatic 43, 3) := by decide +kernel
theorem d44_10 : decode (mm_cb 44) 10 = .ok (.istore_n 3, 1) := by decide +kernel
theorem d44_11 : decode (mm_cb 44) 11 = .ok (.aload_n 0, 1) := by decide +kernel
theorem d44_12 : decode (mm_cb 44) 12 = .ok (.getfield 15, 3) := by decide +kernel
theorem d44_15 : decode (mm_cb 44) 15 = .ok (.iload_n 1, 1) := by decide +kernel
theorem d44_16 : decode (mm_cb 44) 16 = .ok (.iload_n 2, 1) := by decide +kernel
theorem d44_17 : decode (mm_cb 44) 17 = .ok (.iastore, 1) := by decide +kernel
theorem d44_18 : decode (mm_cb 44) 18 = .ok (.aload_n 0, 1) := by decide +kernel
theorem d44_19 : decode (mm_cb 44) 19 = .ok (.getfield 18, 3) := by decide +kernel
theorem d44_22 : decode (mm_cb 44) 22 = .ok (.iload_n 1, 1) := by decide +kernel
theorem d44_23 : decode (mm_cb 44) 23 = .ok (.aload_n 0, 1) := by decide +kernel
theorem d44_24 : decode (mm_cb 44) 24 = .ok (.getfield 21, 3) := by decide +kernel
theorem d44_27 : decode (mm_cb 44) 27 = .ok (.iload_n 3, 1) := by decide +kernel
theorem d44_28 : decode (mm_cb 44) 28 = .ok (.invokevirtual 66, 3) := by decide +kernel
theorem d44_31 : decode (mm_cb 44) 31 = .ok (.iastore, 1) := by decide +kernel
theorem d44_32 : decode (mm_cb 44) 32 = .ok (.iconst 0, 1) := by decide +kernel
theorem d44_33 : decode (mm_cb 44) 33 = .ok (.istore 4, 2) := by decide +kernel
theorem d44_35 : decode (mm_cb 44) 35 = .ok (.iload 4, 2) := by decide +kernel
theorem d44_37 : decode (mm_cb 44) 37 = .ok (.aload_n 0, 1) := by decide +kernel
theorem d44_38 : decode (mm_cb 44) 38 = .ok (.getfield 18, 3) := by decide +kernel
theorem d44_41 : decode (mm_cb 44) 41 = .ok (.iload_n 1, 1) := by decide +kernel
theorem d44_42 : decode (mm_cb 44) 42 = .ok (.iaload, 1) := by decide +kernel
theorem d44_43 : decode (mm_cb 44) 43 = .ok (.if_icmp .ge 48, 3) := by decide +kernel
theorem d44_46 : decode (mm_cb 44) 46 = .ok (.iload_n 1, 1) := by decide +kernel
theorem d44_47 : decode (mm_cb 44) 47 = .ok (.iload 4, 2) := by decide +kernel
theorem d44_49 : decode (mm_cb 44) 49 = .ok (.invokestatic 61, 3) := by decide +kernel
theorem d44_52 : decode (mm_cb 44) 52 = .ok (.istore 5, 2) := by decide +kernel
theorem d44_54 : decode (mm_cb 44) 54 = .ok (.iload 5, 2) := by decide +kernel
theorem d44_56 : decode (mm_cb 44) 56 = .ok (.sipush 256, 3) := by decide +kernel
theorem d44_59 : decode (mm_cb 44) 59 = .ok (.if_icmp .ge 26, 3) := by decide +kernel
theorem d44_62 : decode (mm_cb 44) 62 = .ok (.aload_n 0, 1) := by decide +kernel
theorem d44_63 : decode (mm_cb 44) 63 = .ok (.getfield 9, 3) := by decide +kernel
theorem d44_66 : decode (mm_cb 44) 66 = .ok (.iload 5, 2) := by decide +kernel
theorem d44_68 : decode (mm_cb 44) 68 = .ok (.aload_n 0, 1) := by decide +kernel
theorem d44_69 : decode (mm_cb 44) 69 = .ok (.getfield 21, 3) := by decide +kernel
theorem d44_72 : decode (mm_cb 44) 72 = .ok (.iload_n 3, 1) := by decide +kernel
theorem d44_73 : decode (mm_cb 44) 73 = .ok (.iload 4, 2) := by decide +kernel
theorem d44_75 : decode (mm_cb 44) 75 = .ok (.invokevirtual 69, 3) := by decide +kernel
theorem d44_78 : decode (mm_cb 44) 78 = .ok (.iastore, 1) := by decide +kernel
theorem d44_79 : decode (mm_cb 44) 79 = .ok (.aload_n 0, 1) := by decide +kernel
theorem d44_80 : decode (mm_cb 44) 80 = .ok (.iload 5, 2) := by decide +kernel
theorem d44_82 : decode (mm_cb 44) 82 = .ok (.invokevirtual 29, 3) := by decide +kernel
theorem d44_85 : decode (mm_cb 44) 85 = .ok (.iinc 4 1, 3) := by decide +kernel
theorem d44_88 : decode (mm_cb 44) 88 = .ok (.goto (-53), 3) := by decide +kernel
theorem d44_91 : decode (mm_cb 44) 91 = .ok (.return_, 1) := by decide +kernel
theorem d45_0 : decode (mm_cb 45) 0 = .ok (.iconst 4, 1) := by decide +kernel
theorem d45_1 : decode (mm_cb 45) 1 = .ok (.iload_n 0, 1) := by decide +kernel
theorem d45_2 : decode (mm_cb 45) 2 = .ok (.imul, 1) := by decide +kernel
theorem d45_3 : decode (mm_cb 45) 3 = .ok (.iload_n 1, 1) := by decide +kernel
theorem d45_4 : decode (mm_cb 45) 4 = .ok (.iadd, 1) := by decide +kernel
theorem d45_5 : decode (mm_cb 45) 5 = .ok (.iconst 1, 1) := by decide +kernel
theorem d45_6 : decode (mm_cb 45) 6 = .ok (.iadd, 1) := by decide +kernel
theorem d45_7 : decode (mm_cb 45) 7 = .ok (.ireturn, 1) := by decide +kernel
theorem d46_0 : decode (mm_cb 46) 0 = .ok (.aload_n 0, 1) := by decide +kernel
theorem d46_1 : decode (mm_cb 46) 1 = .ok (.getfield 15, 3) := by decide +kernel
theorem d46_4 : decode (mm_cb 46) 4 = .ok (.iload_n 1, 1) := by decide +kernel
theorem d46_5 : decode (mm_cb 46) 5 = .ok (.bipush (-2), 2) := by decide +kernel
theorem d46_7 : decode (mm_cb 46) 7 = .ok (.iastore, 1) := by decide +kernel
theorem d46_8 : decode (mm_cb 46) 8 = .ok (.aload_n 0, 1) := by decide +kernel
theorem d46_9 : decode (mm_cb 46) 9 = .ok (.getfield 18, 3) := by decide +kernel
theorem d46_12 : decode (mm_cb 46) 12 = .ok (.iload_n 1, 1) := by decide +kernel
theorem d46_13 : decode (mm_cb 46) 13 = .ok (.iconst 0, 1) := by decide +kernel
theorem d46_14 : decode (mm_cb 46) 14 = .ok (.iastore, 1) := by decide +kernel
theorem d46_15 : decode (mm_cb 46) 15 = .ok (.return_, 1) := by decide +kernel
theorem d47_0 : decode (mm_cb 47) 0 = .ok (.aload_n 1, 1) := by decide +kernel
theorem d47_1 : decode (mm_cb 47) 1 = .ok (.invokevirtual 85, 3) := by decide +kernel
theorem d47_4 : decode (mm_cb 47) 4 = .ok (.aload_n 0, 1) := by decide +kernel
theorem d47_5 : decode (mm_cb 47) 5 = .ok (.aload_n 1, 1) := by decide +kernel
theorem d47_6 : decode (mm_cb 47) 6 = .ok (.iconst 0, 1) := by decide +kernel
theorem d47_7 : decode (mm_cb 47) 7 = .ok (.iconst 0, 1) := by decide +kernel
theorem d47_8 : decode (mm_cb 47) 8 = .ok (.invokevirtual 90, 3) := by decide +kernel
theorem d47_11 : decode (mm_cb 47) 11 = .ok (.return_, 1) := by decide +kernel
theorem d48_0 : decode (mm_cb 48) 0 = .ok (.aload_n 0, 1) := by decide +kernel
theorem d48_1 : decode (mm_cb 48) 1 = .ok (.iconst 0, 1) := by decide +kernel
theorem d48_2 : decode (mm_cb 48) 2 = .ok (.putfield 15, 3) := by decide +kernel
theorem d48_5 : decode (mm_cb 48) 5 = .ok (.return_, 1) := by decide +kernel
theorem d49_0 : decode (mm_cb 49) 0 = .ok (.aload_n 1, 1) := by decide +kernel
theorem d49_1 : decode (mm_cb 49) 1 = .ok (.aload_n 0, 1) := by decide +kernel
theorem d49_2 : decode (mm_cb 49) 2 = .ok (.getfield 15, 3) := by decide +kernel
theorem d49_5 : decode (mm_cb 49) 5 = .ok (.iload_n 2, 1) := by decide +kernel
theorem d49_6 : decode (mm_cb 49) 6 = .ok (.iaload, 1) := by decide +kernel
theorem d49_7 : decode (mm_cb 49) 7 = .ok (.invokevirtual 94, 3) := by decide +kernel
theorem d49_10 : decode (mm_cb 49) 10 = .ok (.iload_n 3, 1) := by decide +kernel
theorem d49_11 : decode (mm_cb 49) 11 = .ok (.iconst 4, 1) := by decide +kernel
theorem d49_12 : decode (mm_cb 49) 12 = .ok (.if_icmp .ge 37, 3) := by decide +kernel
theorem d49_15 : decode (mm_cb 49) 15 = .ok (.iconst 0, 1) := by decide +kernel
theorem d49_16 : decode (mm_cb 49) 16 = .ok (.istore 4, 2) := by decide +kernel
theorem d49_18 : decode (mm_cb 49) 18 = .ok (.iload 4, 2) := by decide +kernel
theorem d49_20 : decode (mm_cb 49) 20 = .ok (.aload_n 0, 1) := by decide +kernel
theorem d49_21 : decode (mm_cb 49) 21 = .ok (.getfield 18, 3) := by decide +kernel
theorem d49_24 : decode (mm_cb 49) 24 = .ok (.iload_n 2, 1) := by decide +kernel
theorem d49_25 : decode (mm_cb 49) 25 = .ok (.iaload, 1) := by decide +kernel
theorem d49_26 : decode (mm_cb 49) 26 = .ok (.if_icmp .ge 23, 3) := by decide +kernel
theorem d49_29 : decode (mm_cb 49) 29 = .ok (.aload_n 0, 1) := by decide +kernel
theorem d49_30 : decode (mm_cb 49) 30 = .ok (.aload_n 1, 1) := by decide +kernel
theorem d49_31 : decode (mm_cb 49) 31 = .ok (.iload_n 2, 1) := by decide +kernel
theorem d49_32 : decode (mm_cb 49) 32 = .ok (.iload 4, 2) := by decide +kernel
theorem d49_34 : decode (mm_cb 49) 34 = .ok (.invokestatic 61, 3) := by decide +kernel
theorem d49_37 : decode (mm_cb 49) 37 = .ok (.iload_n 3, 1) := by decide +kernel
theorem d49_38 : decode (mm_cb 49) 38 = .ok (.iconst 1, 1) := by decide +kernel
theorem d49_39 : decode (mm_cb 49) 39 = .ok (.iadd, 1) := by decide +kernel
theorem d49_40 : decode (mm_cb 49) 40 = .ok (.invokevirtual 90, 3) := by decide +kernel
theorem d49_43 : decode (mm_cb 49) 43 = .ok (.iinc 4 1, 3) := by decide +kernel
theorem d49_46 : decode (mm_cb 49) 46 = .ok (.goto (-28), 3) := by decide +kernel
theorem d49_49 : decode (mm_cb 49) 49 = .ok (.return_, 1) := by decide +kernel
theorem d50_0 : decode (mm_cb 50) 0 = .ok (.aload_n 0, 1) := by decide +kernel
theorem d50_1 : decode (mm_cb 50) 1 = .ok (.getfield 15, 3) := by decide +kernel
theorem d50_4 : decode (mm_cb 50) 4 = .ok (.bipush 121, 2) := by decide +kernel
theorem d50_6 : decode (mm_cb 50) 6 = .ok (.if_icmp .ge 23, 3) := by decide +kernel
theorem d50_9 : decode (mm_cb 50) 9 = .ok (.aload_n 0, 1) := by decide +kernel
theorem d50_10 : decode (mm_cb 50) 10 = .ok (.getfield 9, 3) := by decide +kernel
theorem d50_13 : decode (mm_cb 50) 13 = .ok (.aload_n 0, 1) := by decide +kernel
theorem d50_14 : decode (mm_cb 50) 14 = .ok (.getfield 15, 3) := by decide +kernel
theorem d50_17 : decode (mm_cb 50) 17 = .ok (.iload_n 1, 1) := by decide +kernel
theorem d50_18 : decode (mm_cb 50) 18 = .ok (.iastore, 1) := by decide +kernel
theorem d50_19 : decode (mm_cb 50) 19 = .ok (.aload_n 0, 1) := by decide +kernel
theorem d50_20 : decode (mm_cb 50) 20 = .ok (.dup, 1) := by decide +kernel
theorem d50_21 : decode (mm_cb 50) 21 = .ok (.getfield 15, 3) := by decide +kernel
theorem d50_24 : decode (mm_cb 50) 24 = .ok (.iconst 1, 1) := by decide +kernel
theorem d50_25 : decode (mm_cb 50) 25 = .ok (.iadd, 1) := by decide +kernel
theorem d50_26 : decode (mm_cb 50) 26 = .ok (.putfield 15, 3) := by decide +kernel
theorem d50_29 : decode (mm_cb 50) 29 = .ok (.return_, 1) := by decide +kernel
theorem d51_0 : decode (mm_cb 51) 0 = .ok (.aload_n 0, 1) := by decide +kernel
theorem d51_1 : decode (mm_cb 51) 1 = .ok (.getfield 15, 3) := by decide +kernel
theorem d51_4 : decode (mm_cb 51) 4 = .ok (.ireturn, 1) := by decide +kernel
theorem d52_0 : decode (mm_cb 52) 0 = .ok (.aload_n 3, 1) := by decide +kernel
theorem d52_1 : decode (mm_cb 52) 1 = .ok (.iconst 0, 1) := by decide +kernel
theorem d52_2 : decode (mm_cb 52) 2 = .ok (.aload_n 0, 1) := by decide +kernel
theorem d52_3 : decode (mm_cb 52) 3 = .ok (.iload_n 1, 1) := by decide +kernel
theorem d52_4 : decode (mm_cb 52) 4 = .ok (.iload_n 2, 1) := by decide +kernel
theorem d52_5 : decode (mm_cb 52) 5 = .ok (.invokevirtual 27, 3) := by decide +kernel
theorem d52_8 : decode (mm_cb 52) 8 = .ok (.lastore, 1) := by decide +kernel
theorem d52_9 : decode (mm_cb 52) 9 = .ok (.goto 11, 3) := by decide +kernel
theorem d52_12 : decode (mm_cb 52) 12 = .ok (.astore 4, 2) := by decide +kernel
theorem d52_14 : decode (mm_cb 52) 14 = .ok (.iconst 1, 1) := by decide +kernel
theorem d52_15 : decode (mm_cb 52) 15 = .ok (.ireturn, 1) := by decide +kernel
theorem d52_16 : decode (mm_cb 52) 16 = .ok (.astore 4, 2) := by decide +kernel
theorem d52_18 : decode (mm_cb 52) 18 = .ok (.iconst 2, 1) := by decide +kernel
theorem d52_19 : decode (mm_cb 52) 19 = .ok (.ireturn, 1) := by decide +kernel
theorem d52_20 : decode (mm_cb 52) 20 = .ok (.iconst 0, 1) := by decide +kernel
theorem d52_21 : decode (mm_cb 52) 21 = .ok (.ireturn, 1) := by decide +kernel
theorem d53_0 : decode (mm_cb 53) 0 = .ok (.iload_n 1, 1) := by decide +kernel
theorem d53_1 : decode (mm_cb 53) 1 = .ok (.invokestatic 81, 3) := by decide +kernel
theorem d53_4 : decode (mm_cb 53) 4 = .ok (.iload_n 2, 1) := by decide +kernel
theorem d53_5 : decode (mm_cb 53) 5 = .ok (.invokestatic 136, 3) := by decide +kernel
theorem d53_8 : decode (mm_cb 53) 8 = .ok (.aload_n 0, 1) := by decide +kernel
theorem d53_9 : decode (mm_cb 53) 9 = .ok (.getfield 28, 3) := by decide +kernel
theorem d53_12 : decode (mm_cb 53) 12 = .ok (.iload_n 1, 1) := by decide +kernel
theorem d53_13 : decode (mm_cb 53) 13 = .ok (.iload_n 2, 1) := by decide +kernel
theorem d53_14 : decode (mm_cb 53) 14 = .ok (.invokevirtual 139, 3) := by decide +kernel
theorem d53_17 : decode (mm_cb 53) 17 = .ok (.lreturn, 1) := by decide +kernel
theorem d54_0 : decode (mm_cb 54) 0 = .ok (.iload_n 0, 1) := by decide +kernel
theorem d54_1 : decode (mm_cb 54) 1 = .ok (.iconst 1, 1) := by decide +kernel
theorem d54_2 : decode (mm_cb 54) 2 = .ok (.if_icmp .lt 9, 3) := by decide +kernel
theorem d54_5 : decode (mm_cb 54) 5 = .ok (.iload_n 0, 1) := by decide +kernel
theorem d54_6 : decode (mm_cb 54) 6 = .ok (.bipush 12, 2) := by decide +kernel
theorem d54_8 : decode (mm_cb 54) 8 = .ok (.if_icmp .le 13, 3) := by decide +kernel
theorem d54_11 : decode (mm_cb 54) 11 = .ok (.new 85, 3) := by decide +kernel
theorem d54_14 : decode (mm_cb 54) 14 = .ok (.dup, 1) := by decide +kernel
theorem d54_15 : decode (mm_cb 54) 15 = .ok (.ldc 219, 2) := by decide +kernel
theorem d54_17 : decode (mm_cb 54) 17 = .ok (.invokespecial 89, 3) := by decide +kernel
theorem d54_20 : decode (mm_cb 54) 20 = .ok (.athrow, 1) := by decide +kernel
theorem d54_21 : decode (mm_cb 54) 21 = .ok (.return_, 1) := by decide +kernel
theorem d55_0 : decode (mm_cb 55) 0 = .ok (.aload 5, 2) := by decide +kernel
theorem d55_2 : decode (mm_cb 55) 2 = .ok (.iconst 0, 1) := by decide +kernel
theorem d55_3 : decode (mm_cb 55) 3 = .ok (.aload_n 0, 1) := by decide +kernel
theorem d55_4 : decode (mm_cb 55) 4 = .ok (.iload_n 1, 1) := by decide +kernel
theorem d55_5 : decode (mm_cb 55) 5 = .ok (.iload_n 2, 1) := by decide +kernel
theorem d55_6 : decode (mm_cb 55) 6 = .ok (.lload_n 3, 1) := by decide +kernel
theorem d55_7 : decode (mm_cb 55) 7 = .ok (.invokevirtual 30, 3) := by decide +kernel
theorem d55_10 : decode (mm_cb 55) 10 = .ok (.i2l, 1) := by decide +kernel
theorem d55_11 : decode (mm_cb 55) 11 = .ok (.lastore, 1) := by decide +kernel
theorem d55_12 : decode (mm_cb 55) 12 = .ok (.goto 15, 3) := by decide +kernel
theorem d55_15 : decode (mm_cb 55) 15 = .ok (.astore 6, 2) := by decide +kernel
theorem d55_17 : decode (mm_cb 55) 17 = .ok (.iconst 1, 1) := by decide +kernel
theorem d55_18 : decode (mm_cb 55) 18 = .ok (.ireturn, 1) := by decide +kernel
theorem d55_19 : decode (mm_cb 55) 19 = .ok (.astore 6, 2) := by decide +kernel
theorem d55_21 : decode (mm_cb 55) 21 = .ok (.iconst 2, 1) := by decide +kernel
theorem d55_22 : decode (mm_cb 55) 22 = .ok (.ireturn, 1) := by decide +kernel
theorem d55_23 : decode (mm_cb 55) 23 = .ok (.astore 6, 2) := by decide +kernel
theorem d55_25 : decode (mm_cb 55) 25 = .ok (.iconst 3, 1) := by decide +kernel
theorem d55_26 : decode (mm_cb 55) 26 = .ok (.ireturn, 1) := by decide +kernel
theorem d55_27 : decode (mm_cb 55) 27 = .ok (.iconst 0, 1) := by decide +kernel
theorem d55_28 : decode (mm_cb 55) 28 = .ok (.ireturn, 1) := by decide +kernel
theorem d56_0 : decode (mm_cb 56) 0 = .ok (.iload_n 1, 1) := by decide +kernel
theorem d56_1 : decode (mm_cb 56) 1 = .ok (.invokestatic 81, 3) := by decide +kernel
theorem d56_4 : decode (mm_cb 56) 4 = .ok (.iload_n 2, 1) := by decide +kernel
theorem d56_5 : decode (mm_cb 56) 5 = .ok (.invokestatic 136, 3) := by decide +kernel
theorem d56_8 : decode (mm_cb 56) 8 = .ok (.lload_n 3, 1) := by decide +kernel
theorem d56_9 : decode (mm_cb 56) 9 = .ok (.aload_n 0, 1) := by decide +kernel
theorem d56_10 : decode (mm_cb 56) 10 = .ok (.getfield 28, 3) := by decide +kernel
theorem d56_13 : decode (mm_cb 56) 13 = .ok (.iload_n 1, 1) := by decide +kernel
theorem d56_14 : decode (mm_cb 56) 14 = .ok (.iload_n 2, 1) := by decide +kernel
theorem d56_15 : decode (mm_cb 56) 15 = .ok (.invokevirtual 139, 3) := by decide +kernel
theorem d56_18 : decode (mm_cb 56) 18 = .ok (.invokestatic 120, 3) := by decide +kernel
theorem d56_21 : decode (mm_cb 56) 21 = .ok (.aload_n 0, 1) := by decide +kernel
theorem d56_22 : decode (mm_cb 56) 22 = .ok (.getfield 53, 3) := by decide +kernel
theorem d56_25 : decode (mm_cb 56) 25 = .ok (.iload_n 1, 1) := by decide +kernel
theorem d56_26 : decode (mm_cb 56) 26 = .ok (.iload_n 2, 1) := by decide +kernel
theorem d56_27 : decode (mm_cb 56) 27 = .ok (.lload_n 3, 1) := by decide +kernel
theorem d56_28 : decode (mm_cb 56) 28 = .ok (.invokevirtual 140, 3) := by decide +kernel
theorem d56_31 : decode (mm_cb 56) 31 = .ok (.aload_n 0, 1) := by decide +kernel
theorem d56_32 : decode (mm_cb 56) 32 = .ok (.getfield 35, 3) := by decide +kernel
theorem d56_35 : decode (mm_cb 56) 35 = .ok (.invokevirtual 132, 3) := by decide +kernel
theorem d56_38 : decode (mm_cb 56) 38 = .ok (.ireturn, 1) := by decide +kernel
theorem d57_0 : decode (mm_cb 57) 0 = .ok (.aload_n 0, 1) := by decide +kernel
theorem d57_1 : decode (mm_cb 57) 1 = .ok (.getfield 23, 3) := by decide +kernel
theorem d57_4 : decode (mm_cb 57) 4 = .ok (.invokevirtual 27, 3) := by decide +kernel
theorem d57_7 : decode (mm_cb 57) 7 = .ok (.aload_n 0, 1) := by decide +kernel
theorem d57_8 : decode (mm_cb 57) 8 = .ok (.iload_n 1, 1) := by decide +kernel
theorem d57_9 : decode (mm_cb 57) 9 = .ok (.iload_n 2, 1) := by decide +kernel
theorem d57_10 : decode (mm_cb 57) 10 = .ok (.lload_n 3, 1) := by decide +kernel
theorem d57_11 : decode (mm_cb 57) 11 = .ok (.invokevirtual 32, 3) := by decide +kernel
theorem d57_14 : decode (mm_cb 57) 14 = .ok (.return_, 1) := by decide +kernel
theorem d58_0 : decode (mm_cb 58) 0 = .ok (.iload_n 2, 1) := by decide +kernel
theorem d58_1 : decode (mm_cb 58) 1 = .ok (.iconst 1, 1) := by decide +kernel
theorem d58_2 : decode (mm_cb 58) 2 = .ok (.if_icmp .ge 4, 3) := by decide +kernel
theorem d58_5 : decode (mm_cb 58) 5 = .ok (.return_, 1) := by decide +kernel
theorem d58_6 : decode (mm_cb 58) 6 = .ok (.lload_n 3, 1) := by decide +kernel
theorem d58_7 : decode (mm_cb 58) 7 = .ok (.lstore 5, 2) := by decide +kernel
theorem d58_9 : decode (mm_cb 58) 9 = .ok (.iconst 0, 1) := by decide +kernel
theorem d58_10 : decode (mm_cb 58) 10 = .ok (.istore 7, 2) := by decide +kernel
theorem d58_12 : decode (mm_cb 58) 12 = .ok (.iload 7, 2) := by decide +kernel
theorem d58_14 : decode (mm_cb 58) 14 = .ok (.aload_n 0, 1) := by decide +kernel
theorem d58_15 : decode (mm_cb 58) 15 = .ok (.getfield 15, 3) := by decide +kernel
theorem d58_18 : decode (mm_cb 58) 18 = .ok (.iload_n 1, 1) := by decide +kernel
theorem d58_19 : decode (mm_cb 58) 19 = .ok (.invokevirtual 36, 3) := by decide +kernel
theorem d58_22 : decode (mm_cb 58) 22 = .ok (.iconst 1, 1) := by decide +kernel
theorem d58_23 : decode (mm_cb 58) 23 = .ok (.isub, 1) := by decide +kernel
theorem d58_24 : decode (mm_cb 58) 24 = .ok (.if_icmp .ge 54, 3) := by decide +kernel
theorem d58_27 : decode (mm_cb 58) 27 = .ok (.lload 5, 2) := by decide +kernel
theorem d58_29 : decode (mm_cb 58) 29 = .ok (.aload_n 0, 1) := by decide +kernel
theorem d58_30 : decode (mm_cb 58) 30 = .ok (.getfield 19, 3) := by decide +kernel
theorem d58_33 : decode (mm_cb 58) 33 = .ok (.iload_n 1, 1) := by decide +kernel
theorem d58_34 : decode (mm_cb 58) 34 = .ok (.iload 7, 2) := by decide +kernel
theorem d58_36 : decode (mm_cb 58) 36 = .ok (.invokestatic 42, 3) := by decide +kernel
theorem d58_39 : decode (mm_cb 58) 39 = .ok (.iconst 0, 1) := by decide +kernel
theorem d58_40 : decode (mm_cb 58) 40 = .ok (.iload_n 2, 1) := by decide +kernel
theorem d58_41 : decode (mm_cb 58) 41 = .ok (.iconst 1, 1) := by decide +kernel
theorem d58_42 : decode (mm_cb 58) 42 = .ok (.isub, 1) := by decide +kernel
theorem d58_43 : decode (mm_cb 58) 43 = .ok (.invokevirtual 46, 3) := by decide +kernel
theorem d58_46 : decode (mm_cb 58) 46 = .ok (.lcmp, 1) := by decide +kernel
theorem d58_47 : decode (mm_cb 58) 47 = .ok (.ifCond .lt 31, 3) := by decide +kernel
theorem d58_50 : decode (mm_cb 58) 50 = .ok (.lload 5, 2) := by decide +kernel
theorem d58_52 : decode (mm_cb 58) 52 = .ok (.aload_n 0, 1) := by decide +kernel
theorem d58_53 : decode (mm_cb 58) 53 = .ok (.getfield 19, 3) := by decide +kernel
theorem d58_56 : decode (mm_cb 58) 56 = .ok (.iload_n 1, 1) := by decide +kernel
theorem d58_57 : decode (mm_cb 58) 57 = .ok (.iload 7, 2) := by decide +kernel
theorem d58_59 : decode (mm_cb 58) 59 = .ok (.invokestatic 42, 3) := by decide +kernel
theorem d58_62 : decode (mm_cb 58) 62 = .ok (.iconst 0, 1) := by decide +kernel
theorem d58_63 : decode (mm_cb 58) 63 = .ok (.iload_n 2, 1) := by decide +kernel
theorem d58_64 : decode (mm_cb 58) 64 = .ok (.iconst 1, 1) := by decide +kernel
theorem d58_65 : decode (mm_cb 58) 65 = .ok (.isub, 1) := by decide +kernel
theorem d58_66 : decode (mm_cb 58) 66 = .ok (.invokevirtual 46, 3) := by decide +kernel
theorem d58_69 : decode (mm_cb 58) 69 = .ok (.lsub, 1) := by decide +kernel
theorem d58_70 : decode (mm_cb 58) 70 = .ok (.lstore 5, 2) := by decide +kernel
theorem d58_72 : decode (mm_cb 58) 72 = .ok (.iinc 7 1, 3) := by decide +kernel
theorem d58_75 : decode (mm_cb 58) 75 = .ok (.goto (-63), 3) := by decide +kernel
theorem d58_78 : decode (mm_cb 58) 78 = .ok (.aload_n 0, 1) := by decide +kernel
theorem d58_79 : decode (mm_cb 58) 79 = .ok (.getfield 23, 3) := by decide +kernel
theorem d58_82 : decode (mm_cb 58) 82 = .ok (.iload 7, 2) := by decide +kernel
theorem d58_84 : decode (mm_cb 58) 84 = .ok (.invokevirtual 52, 3) := by decide +kernel
theorem d58_87 : decode (mm_cb 58) 87 = .ok (.aload_n 0, 1) := by decide +kernel
theorem d58_88 : decode (mm_cb 58) 88 = .ok (.iload_n 1, 1) := by decide +kernel
theorem d58_89 : decode (mm_cb 58) 89 = .ok (.iload 7, 2) := by decide +kernel
theorem d58_91 : decode (mm_cb 58) 91 = .ok (.invokestatic 42, 3) := by decide +kernel
theorem d58_94 : decode (mm_cb 58) 94 = .ok (.iload_n 2, 1) := by decide +kernel
theorem d58_95 : decode (mm_cb 58) 95 = .ok (.lload 5, 2) := by decide +kernel
theorem d58_97 : decode (mm_cb 58) 97 = .ok (.invokevirtual 56, 3) := by decide +kernel
theorem d58_100 : decode (mm_cb 58) 100 = .ok (.return_, 1) := by decide +kernel
theorem d59_0 : decode (mm_cb 59) 0 = .ok (.aload_n 0, 1) := by decide +kernel
theorem d59_1 : decode (mm_cb 59) 1 = .ok (.iload_n 1, 1) := by decide +kernel
theorem d59_2 : decode (mm_cb 59) 2 = .ok (.iload_n 2, 1) := by decide +kernel
theorem d59_3 : decode (mm_cb 59) 3 = .ok (.lload_n 3, 1) := by decide +kernel
theorem d59_4 : decode (mm_cb 59) 4 = .ok (.invokevirtual 59, 3) := by decide +kernel
theorem d59_7 : decode (mm_cb 59) 7 = .ok (.lstore 5, 2) := by decide +kernel
theorem d59_9 : decode (mm_cb 59) 9 = .ok (.iconst 0, 1) := by decide +kernel
theorem d59_10 : decode (mm_cb 59) 10 = .ok (.istore 7, 2) := by decide +kernel
theorem d59_12 : decode (mm_cb 59) 12 = .ok (.iload 7, 2) := by decide +kernel
theorem d59_14 : decode (mm_cb 59) 14 = .ok (.aload_n 0, 1) := by decide +kernel
theorem d59_15 : decode (mm_cb 59) 15 = .ok (.getfield 15, 3) := by decide +kernel
theorem d59_18 : decode (mm_cb 59) 18 = .ok (.iload_n 1, 1) := by decide +kernel
theorem d59_19 : decode (mm_cb 59) 19 = .ok (.invokevirtual 63, 3) := by decide +kernel
theorem d59_22 : decode (mm_cb 59) 22 = .ok (.if_icmp .ge 63, 3) := by decide +kernel
theorem d59_25 : decode (mm_cb 59) 25 = .ok (.aload_n 0, 1) := by decide +kernel
theorem d59_26 : decode (mm_cb 59) 26 = .ok (.iload_n 1, 1) := by decide +kernel
theorem d59_27 : decode (mm_cb 59) 27 = .ok (.iload_n 2, 1) := by decide +kernel
theorem d59_28 : decode (mm_cb 59) 28 = .ok (.iload 7, 2) := by decide +kernel
theorem d59_30 : decode (mm_cb 59) 30 = .ok (.invokevirtual 66, 3) := by decide +kernel
theorem d59_33 : decode (mm_cb 59) 33 = .ok (.lstore 8, 2) := by decide +kernel
theorem d59_35 : decode (mm_cb 59) 35 = .ok (.lload 8, 2) := by decide +kernel
theorem d59_37 : decode (mm_cb 59) 37 = .ok (.lconst 0, 1) := by decide +kernel
theorem d59_38 : decode (mm_cb 59) 38 = .ok (.lcmp, 1) := by decide +kernel
theorem d59_39 : decode (mm_cb 59) 39 = .ok (.ifCond .le 40, 3) := by decide +kernel
theorem d59_42 : decode (mm_cb 59) 42 = .ok (.aload_n 0, 1) := by decide +kernel
theorem d59_43 : decode (mm_cb 59) 43 = .ok (.aload_n 0, 1) := by decide +kernel
theorem d59_44 : decode (mm_cb 59) 44 = .ok (.getfield 15, 3) := by decide +kernel
theorem d59_47 : decode (mm_cb 59) 47 = .ok (.iload_n 1, 1) := by decide +kernel
theorem d59_48 : decode (mm_cb 59) 48 = .ok (.iload 7, 2) := by decide +kernel
theorem d59_50 : decode (mm_cb 59) 50 = .ok (.invokevirtual 69, 3) := by decide +kernel
theorem d59_53 : decode (mm_cb 59) 53 = .ok (.aload_n 0, 1) := by decide +kernel
theorem d59_54 : decode (mm_cb 59) 54 = .ok (.getfield 9, 3) := by decide +kernel
theorem d59_57 : decode (mm_cb 59) 57 = .ok (.iload_n 2, 1) := by decide +kernel
theorem d59_58 : decode (mm_cb 59) 58 = .ok (.iconst 3, 1) := by decide +kernel
theorem d59_59 : decode (mm_cb 59) 59 = .ok (.imul, 1) := by decide +kernel
theorem d59_60 : decode (mm_cb 59) 60 = .ok (.iload 7, 2) := by decide +kernel
theorem d59_62 : decode (mm_cb 59) 62 = .ok (.iadd, 1) := by decide +kernel
theorem d59_63 : decode (mm_cb 59) 63 = .ok (.iaload, 1) := by decide +kernel
theorem d59_64 : decode (mm_cb 59) 64 = .ok (.lload 5, 2) := by decide +kernel
theorem d59_66 : decode (mm_cb 59) 66 = .ok (.lload 8, 2) := by decide +kernel
theorem d59_68 : decode (mm_cb 59) 68 = .ok (.ldiv, 1) := by decide +kernel
theorem d59_69 : decode (mm_cb 59) 69 = .ok (.invokevirtual 32, 3) := by decide +kernel
theorem d59_72 : decode (mm_cb 59) 72 = .ok (.lload 5, 2) := by decide +kernel
theorem d59_74 : decode (mm_cb 59) 74 = .ok (.lload 8, 2) := by decide +kernel
theorem d59_76 : decode (mm_cb 59) 76 = .ok (.lrem, 1) := by decide +kernel
theorem d59_77 : decode (mm_cb 59) 77 = .ok (.lstore 5, 2) := by decide +kernel
theorem d59_79 : decode (mm_cb 59) 79 = .ok (.iinc 7 1, 3) := by decide +kernel
theorem d59_82 : decode (mm_cb 59) 82 = .ok (.goto (-70), 3) := by decide +kernel
theorem d59_85 : decode (mm_cb 59) 85 = .ok (.return_, 1) := by decide +kernel
theorem d60_0 : decode (mm_cb 60) 0 = .ok (.lload_n 3, 1) := by decide +kernel
theorem d60_1 : decode (mm_cb 60) 1 = .ok (.lstore 5, 2) := by decide +kernel
theorem d60_3 : decode (mm_cb 60) 3 = .ok (.lconst 1, 1) := by decide +kernel
theorem d60_4 : decode (mm_cb 60) 4 = .ok (.lstore 7, 2) := by decide +kernel
theorem d60_6 : decode (mm_cb 60) 6 = .ok (.iload_n 2, 1) := by decide +kernel
theorem d60_7 : decode (mm_cb 60) 7 = .ok (.iconst 1, 1) := by decide +kernel
theorem d60_8 : decode (mm_cb 60) 8 = .ok (.isub, 1) := by decide +kernel
theorem d60_9 : decode (mm_cb 60) 9 = .ok (.istore 9, 2) := by decide +kernel
theorem d60_11 : decode (mm_cb 60) 11 = .ok (.iconst 0, 1) := by decide +kernel
theorem d60_12 : decode (mm_cb 60) 12 = .ok (.istore 10, 2) := by decide +kernel
theorem d60_14 : decode (mm_cb 60) 14 = .ok (.iload 10, 2) := by decide +kernel
theorem d60_16 : decode (mm_cb 60) 16 = .ok (.aload_n 0, 1) := by decide +kernel
theorem d60_17 : decode (mm_cb 60) 17 = .ok (.getfield 15, 3) := by decide +kernel
theorem d60_20 : decode (mm_cb 60) 20 = .ok (.iload_n 1, 1) := by decide +kernel
theorem d60_21 : decode (mm_cb 60) 21 = .ok (.invokevirtual 63, 3) := by decide +kernel
theorem d60_24 : decode (mm_cb 60) 24 = .ok (.if_icmp .ge 120, 3) := by decide +kernel
theorem d60_27 : decode (mm_cb 60) 27 = .ok (.aload_n 0, 1) := by decide +kernel
theorem d60_28 : decode (mm_cb 60) 28 = .ok (.getfield 15, 3) := by decide +kernel
theorem d60_31 : decode (mm_cb 60) 31 = .ok (.iload_n 1, 1) := by decide +kernel
theorem d60_32 : decode (mm_cb 60) 32 = .ok (.iload 10, 2) := by decide +kernel
theorem d60_34 : decode (mm_cb 60) 34 = .ok (.invokevirtual 69, 3) := by decide +kernel
theorem d60_37 : decode (mm_cb 60) 37 = .ok (.istore 11, 2) := by decide +kernel
theorem d60_39 : decode (mm_cb 60) 39 = .ok (.iconst 1, 1) := by decide +kernel
theorem d60_40 : decode (mm_cb 60) 40 = .ok (.istore 12, 2) := by decide +kernel
theorem d60_42 : decode (mm_cb 60) 42 = .ok (.lload 7, 2) := by decide +kernel
theorem d60_44 : decode (mm_cb 60) 44 = .ok (.aload_n 0, 1) := by decide +kernel
theorem d60_45 : decode (mm_cb 60) 45 = .ok (.iload_n 1, 1) := by decide +kernel
theorem d60_46 : decode (mm_cb 60) 46 = .ok (.iload 10, 2) := by decide +kernel
theorem d60_48 : decode (mm_cb 60) 48 = .ok (.iload 12, 2) := by decide +kernel
theorem d60_50 : decode (mm_cb 60) 50 = .ok (.iload 9, 2) := by decide +kernel
theorem d60_52 : decode (mm_cb 60) 52 = .ok (.invokevirtual 72, 3) := by decide +kernel
theorem d60_55 : decode (mm_cb 60) 55 = .ok (.lmul, 1) := by decide +kernel
theorem d60_56 : decode (mm_cb 60) 56 = .ok (.lstore 13, 2) := by decide +kernel
theorem d60_58 : decode (mm_cb 60) 58 = .ok (.iload 12, 2) := by decide +kernel
theorem d60_60 : decode (mm_cb 60) 60 = .ok (.iload 9, 2) := by decide +kernel
theorem d60_62 : decode (mm_cb 60) 62 = .ok (.if_icmp .ge 40, 3) := by decide +kernel
theorem d60_65 : decode (mm_cb 60) 65 = .ok (.lload 5, 2) := by decide +kernel
theorem d60_67 : decode (mm_cb 60) 67 = .ok (.lload 13, 2) := by decide +kernel
theorem d60_69 : decode (mm_cb 60) 69 = .ok (.lcmp, 1) := by decide +kernel
theorem d60_70 : decode (mm_cb 60) 70 = .ok (.ifCond .lt 32, 3) := by decide +kernel
theorem d60_73 : decode (mm_cb 60) 73 = .ok (.lload 5, 2) := by decide +kernel
theorem d60_75 : decode (mm_cb 60) 75 = .ok (.lload 13, 2) := by decide +kernel
theorem d60_77 : decode (mm_cb 60) 77 = .ok (.lsub, 1) := by decide +kernel
theorem d60_78 : decode (mm_cb 60) 78 = .ok (.lstore 5, 2) := by decide +kernel
theorem d60_80 : decode (mm_cb 60) 80 = .ok (.iinc 12 1, 3) := by decide +kernel
theorem d60_83 : decode (mm_cb 60) 83 = .ok (.lload 7, 2) := by decide +kernel
theorem d60_85 : decode (mm_cb 60) 85 = .ok (.aload_n 0, 1) := by decide +kernel
theorem d60_86 : decode (mm_cb 60) 86 = .ok (.iload_n 1, 1) := by decide +kernel
theorem d60_87 : decode (mm_cb 60) 87 = .ok (.iload 10, 2) := by decide +kernel
theorem d60_89 : decode (mm_cb 60) 89 = .ok (.iload 12, 2) := by decide +kernel
theorem d60_91 : decode (mm_cb 60) 91 = .ok (.iload 9, 2) := by decide +kernel
theorem d60_93 : decode (mm_cb 60) 93 = .ok (.invokevirtual 72, 3) := by decide +kernel
theorem d60_96 : decode (mm_cb 60) 96 = .ok (.lmul, 1) := by decide +kernel
theorem d60_97 : decode (mm_cb 60) 97 = .ok (.lstore 13, 2) := by decide +kernel
theorem d60_99 : decode (mm_cb 60) 99 = .ok (.goto (-41), 3) := by decide +kernel
theorem d60_102 : decode (mm_cb 60) 102 = .ok (.aload_n 0, 1) := by decide +kernel
theorem d60_103 : decode (mm_cb 60) 103 = .ok (.getfield 9, 3) := by decide +kernel
theorem d60_106 : decode (mm_cb 60) 106 = .ok (.iload_n 2, 1) := by decide +kernel
theorem d60_107 : decode (mm_cb 60) 107 = .ok (.iconst 3, 1) := by decide +kernel
theorem d60_108 : decode (mm_cb 60) 108 = .ok (.imul, 1) := by decide +kernel
theorem d60_109 : decode (mm_cb 60) 109 = .ok (.iload 10, 2) := by decide +kernel
theorem d60_111 : decode (mm_cb 60) 111 = .ok (.iadd, 1) := by decide +kernel
theorem d60_112 : decode (mm_cb 60) 112 = .ok (.iload 12, 2) := by decide +kernel
theorem d60_114 : decode (mm_cb 60) 114 = .ok (.iastore, 1) := by decide +kernel
theorem d60_115 : decode (mm_cb 60) 115 = .ok (.lload 7, 2) := by decide +kernel
theorem d60_117 : decode (mm_cb 60) 117 = .ok (.aload_n 0, 1) := by decide +kernel
theorem d60_118 : decode (mm_cb 60) 118 = .ok (.getfield 19, 3) := by decide +kernel
theorem d60_121 : decode (mm_cb 60) 121 = .ok (.iload 11, 2) := by decide +kernel
theorem d60_123 : decode (mm_cb 60) 123 = .ok (.iload 12, 2) := by decide +kernel
theorem d60_125 : decode (mm_cb 60) 125 = .ok (.invokevirtual 76, 3) := by decide +kernel
theorem d60_128 : decode (mm_cb 60) 128 = .ok (.lmul, 1) := by decide +kernel
theorem d60_129 : decode (mm_cb 60) 129 = .ok (.lstore 7, 2) := by decide +kernel
theorem d60_131 : decode (mm_cb 60) 131 = .ok (.iload 9, 2) := by decide +kernel
theorem d60_133 : decode (mm_cb 60) 133 = .ok (.iload 12, 2) := by decide +kernel
theorem d60_135 : decode (mm_cb 60) 135 = .ok (.isub, 1) := by decide +kernel
theorem d60_136 : decode (mm_cb 60) 136 = .ok (.istore 9, 2) := by decide +kernel
theorem d60_138 : decode (mm_cb 60) 138 = .ok (.iinc 10 1, 3) := by decide +kernel
theorem d60_141 : decode (mm_cb 60) 141 = .ok (.goto (-127), 3) := by decide +kernel
theorem d60_144 : decode (mm_cb 60) 144 = .ok (.lload 5, 2) := by decide +kernel
theorem d60_146 : decode (mm_cb 60) 146 = .ok (.lreturn, 1) := by decide +kernel
theorem d61_0 : decode (mm_cb 61) 0 = .ok (.iload_n 3, 1) := by decide +kernel
theorem d61_1 : decode (mm_cb 61) 1 = .ok (.iload 4, 2) := by decide +kernel
theorem d61_3 : decode (mm_cb 61) 3 = .ok (.if_icmp .le 5, 3) := by decide +kernel
theorem d61_6 : decode (mm_cb 61) 6 = .ok (.lconst 0, 1) := by decide +kernel
theorem d61_7 : decode (mm_cb 61) 7 = .ok (.lreturn, 1) := by decide +kernel
theorem d61_8 : decode (mm_cb 61) 8 = .ok (.aload_n 0, 1) := by decide +kernel
theorem d61_9 : decode (mm_cb 61) 9 = .ok (.getfield 19, 3) := by decide +kernel
theorem d61_12 : decode (mm_cb 61) 12 = .ok (.aload_n 0, 1) := by decide +kernel
theorem d61_13 : decode (mm_cb 61) 13 = .ok (.getfield 15, 3) := by decide +kernel
theorem d61_16 : decode (mm_cb 61) 16 = .ok (.iload_n 1, 1) := by decide +kernel
theorem d61_17 : decode (mm_cb 61) 17 = .ok (.iload_n 2, 1) := by decide +kernel
theorem d61_18 : decode (mm_cb 61) 18 = .ok (.invokevirtual 69, 3) := by decide +kernel
theorem d61_21 : decode (mm_cb 61) 21 = .ok (.iload_n 3, 1) := by decide +kernel
theorem d61_22 : decode (mm_cb 61) 22 = .ok (.invokevirtual 76, 3) := by decide +kernel
theorem d61_25 : decode (mm_cb 61) 25 = .ok (.aload_n 0, 1) := by decide +kernel
theorem d61_26 : decode (mm_cb 61) 26 = .ok (.getfield 19, 3) := by decide +kernel
theorem d61_29 : decode (mm_cb 61) 29 = .ok (.iload_n 1, 1) := by decide +kernel
theorem d61_30 : decode (mm_cb 61) 30 = .ok (.iload_n 2, 1) := by decide +kernel
theorem d61_31 : decode (mm_cb 61) 31 = .ok (.iconst 1, 1) := by decide +kernel
theorem d61_32 : decode (mm_cb 61) 32 = .ok (.iadd, 1) := by decide +kernel
theorem d61_33 : decode (mm_cb 61) 33 = .ok (.iload 4, 2) := by decide +kernel
theorem d61_35 : decode (mm_cb 61) 35 = .ok (.iload_n 3, 1) := by decide +kernel
theorem d61_36 : decode (mm_cb 61) 36 = .ok (.isub, 1) := by decide +kernel
theorem d61_37 : decode (mm_cb 61) 37 = .ok (.invokevirtual 46, 3) := by decide +kernel
theorem d61_40 : decode (mm_cb 61) 40 = .ok (.lmul, 1) := by decide +kernel
theorem d61_41 : decode (mm_cb 61) 41 = .ok (.lreturn, 1) := by decide +kernel
theorem d62_0 : decode (mm_cb 62) 0 = .ok (.lconst 1, 1) := by decide +kernel
theorem d62_1 : decode (mm_cb 62) 1 = .ok (.lstore 4, 2) := by decide +kernel
theorem d62_3 : decode (mm_cb 62) 3 = .ok (.iload_n 3, 1) := by decide +kernel
theorem d62_4 : decode (mm_cb 62) 4 = .ok (.iconst 1, 1) := by decide +kernel
theorem d62_5 : decode (mm_cb 62) 5 = .ok (.iadd, 1) := by decide +kernel
theorem d62_6 : decode (mm_cb 62) 6 = .ok (.istore 6, 2) := by decide +kernel
theorem d62_8 : decode (mm_cb 62) 8 = .ok (.iload 6, 2) := by decide +kernel
theorem d62_10 : decode (mm_cb 62) 10 = .ok (.aload_n 0, 1) := by decide +kernel
theorem d62_11 : decode (mm_cb 62) 11 = .ok (.getfield 15, 3) := by decide +kernel
theorem d62_14 : decode (mm_cb 62) 14 = .ok (.iload_n 1, 1) := by decide +kernel
theorem d62_15 : decode (mm_cb 62) 15 = .ok (.invokevirtual 63, 3) := by decide +kernel
theorem d62_18 : decode (mm_cb 62) 18 = .ok (.if_icmp .ge 42, 3) := by decide +kernel
theorem d62_21 : decode (mm_cb 62) 21 = .ok (.lload 4, 2) := by decide +kernel
theorem d62_23 : decode (mm_cb 62) 23 = .ok (.aload_n 0, 1) := by decide +kernel
theorem d62_24 : decode (mm_cb 62) 24 = .ok (.getfield 19, 3) := by decide +kernel
theorem d62_27 : decode (mm_cb 62) 27 = .ok (.aload_n 0, 1) := by decide +kernel
theorem d62_28 : decode (mm_cb 62) 28 = .ok (.getfield 15, 3) := by decide +kernel
theorem d62_31 : decode (mm_cb 62) 31 = .ok (.iload_n 1, 1) := by decide +kernel
theorem d62_32 : decode (mm_cb 62) 32 = .ok (.iload 6, 2) := by decide +kernel
theorem d62_34 : decode (mm_cb 62) 34 = .ok (.invokevirtual 69, 3) := by decide +kernel
theorem d62_37 : decode (mm_cb 62) 37 = .ok (.aload_n 0, 1) := by decide +kernel
theorem d62_38 : decode (mm_cb 62) 38 = .ok (.getfield 9, 3) := by decide +kernel
theorem d62_41 : decode (mm_cb 62) 41 = .ok (.iload_n 2, 1) := by decide +kernel
theorem d62_42 : decode (mm_cb 62) 42 = .ok (.iconst 3, 1) := by decide +kernel
theorem d62_43 : decode (mm_cb 62) 43 = .ok (.imul, 1) := by decide +kernel
theorem d62_44 : decode (mm_cb 62) 44 = .ok (.iload 6, 2) := by decide +kernel
theorem d62_46 : decode (mm_cb 62) 46 = .ok (.iadd, 1) := by decide +kernel
theorem d62_47 : decode (mm_cb 62) 47 = .ok (.iaload, 1) := by decide +kernel
theorem d62_48 : decode (mm_cb 62) 48 = .ok (.invokevirtual 76, 3) := by decide +kernel
theorem d62_51 : decode (mm_cb 62) 51 = .ok (.lmul, 1) := by decide +kernel
theorem d62_52 : decode (mm_cb 62) 52 = .ok (.lstore 4, 2) := by decide +kernel
theorem d62_54 : decode (mm_cb 62) 54 = .ok (.iinc 6 1, 3) := by decide +kernel
theorem d62_57 : decode (mm_cb 62) 57 = .ok (.goto (-49), 3) := by decide +kernel
theorem d62_60 : decode (mm_cb 62) 60 = .ok (.lload 4, 2) := by decide +kernel
theorem d62_62 : decode (mm_cb 62) 62 = .ok (.lreturn, 1) := by decide +kernel
theorem d63_0 : decode (mm_cb 63) 0 = .ok (.aload_n 3, 1) := by decide +kernel
theorem d63_1 : decode (mm_cb 63) 1 = .ok (.iconst 0, 1) := by decide +kernel
theorem d63_2 : decode (mm_cb 63) 2 = .ok (.aload_n 0, 1) := by decide +kernel
theorem d63_3 : decode (mm_cb 63) 3 = .ok (.iload_n 1, 1) := by decide +kernel
theorem d63_4 : decode (mm_cb 63) 4 = .ok (.iload_n 2, 1) := by decide +kernel
theorem d63_5 : decode (mm_cb 63) 5 = .ok (.invokevirtual 33, 3) := by decide +kernel
theorem d63_8 : decode (mm_cb 63) 8 = .ok (.i2l, 1) := by decide +kernel
theorem d63_9 : decode (mm_cb 63) 9 = .ok (.lastore, 1) := by decide +kernel
theorem d63_10 : decode (mm_cb 63) 10 = .ok (.goto 11, 3) := by decide +kernel
theorem d63_13 : decode (mm_cb 63) 13 = .ok (.astore 4, 2) := by decide +kernel
theorem d63_15 : decode (mm_cb 63) 15 = .ok (.iconst 1, 1) := by decide +kernel
theorem d63_16 : decode (mm_cb 63) 16 = .ok (.ireturn, 1) := by decide +kernel
theorem d63_17 : decode (mm_cb 63) 17 = .ok (.astore 4, 2) := by decide +kernel
theorem d63_19 : decode (mm_cb 63) 19 = .ok (.iconst 2, 1) := by decide +kernel
theorem d63_20 : decode (mm_cb 63) 20 = .ok (.ireturn, 1) := by decide +kernel
theorem d63_21 : decode (mm_cb 63) 21 = .ok (.iconst 0, 1) := by decide +kernel
theorem d63_22 : decode (mm_cb 63) 22 = .ok (.ireturn, 1) := by decide +kernel
theorem d64_0 : decode (mm_cb 64) 0 = .ok (.iload_n 1, 1) := by decide +kernel
theorem d64_1 : decode (mm_cb 64) 1 = .ok (.invokestatic 146, 3) := by decide +kernel
theorem d64_4 : decode (mm_cb 64) 4 = .ok (.iload_n 2, 1) := by decide +kernel
theorem d64_5 : decode (mm_cb 64) 5 = .ok (.ifCond .lt 8, 3) := by decide +kernel
theorem d64_8 : decode (mm_cb 64) 8 = .ok (.iload_n 2, 1) := by decide +kernel
theorem d64_9 : decode (mm_cb 64) 9 = .ok (.iconst 4, 1) := by decide +kernel
theorem d64_10 : decode (mm_cb 64) 10 = .ok (.if_icmp .lt 13, 3) := by decide +kernel
theorem d64_13 : decode (mm_cb 64) 13 = .ok (.new 85, 3) := by decide +kernel
theorem d64_16 : decode (mm_cb 64) 16 = .ok (.dup, 1) := by decide +kernel
theorem d64_17 : decode (mm_cb 64) 17 = .ok (.ldc 149, 2) := by decide +kernel
theorem d64_19 : decode (mm_cb 64) 19 = .ok (.invokespecial 89, 3) := by decide +kernel
theorem d64_22 : decode (mm_cb 64) 22 = .ok (.athrow, 1) := by decide +kernel
theorem d64_23 : decode (mm_cb 64) 23 = .ok (.aload_n 0, 1) := by decide +kernel
theorem d64_24 : decode (mm_cb 64) 24 = .ok (.invokevirtual 151, 3) := by decide +kernel
theorem d64_27 : decode (mm_cb 64) 27 = .ok (.aload_n 0, 1) := by decide +kernel
theorem d64_28 : decode (mm_cb 64) 28 = .ok (.getfield 60, 3) := by decide +kernel
theorem d64_31 : decode (mm_cb 64) 31 = .ok (.iconst 3, 1) := by decide +kernel
theorem d64_32 : decode (mm_cb 64) 32 = .ok (.iload_n 1, 1) := by decide +kernel
theorem d64_33 : decode (mm_cb 64) 33 = .ok (.iload_n 2, 1) := by decide +kernel
theorem d64_34 : decode (mm_cb 64) 34 = .ok (.invokevirtual 154, 3) := by decide +kernel
theorem d64_37 : decode (mm_cb 64) 37 = .ok (.ireturn, 1) := by decide +kernel
theorem d65_0 : decode (mm_cb 65) 0 = .ok (.iload_n 0, 1) := by decide +kernel
theorem d65_1 : decode (mm_cb 65) 1 = .ok (.invokestatic 223, 3) := by decide +kernel
theorem d65_4 : decode (mm_cb 65) 4 = .ok (.ifCond .ne 13, 3) := by decide +kernel
theorem d65_7 : decode (mm_cb 65) 7 = .ok (.new 85, 3) := by decide +kernel
theorem d65_10 : decode (mm_cb 65) 10 = .ok (.dup, 1) := by decide +kernel
theorem d65_11 : decode (mm_cb 65) 11 = .ok (.ldc 229, 2) := by decide +kernel
theorem d65_13 : decode (mm_cb 65) 13 = .ok (.invokespecial 89, 3) := by decide +kernel
theorem d65_16 : decode (mm_cb 65) 16 = .ok (.athrow, 1) := by decide +kernel
theorem d65_17 : decode (mm_cb 65) 17 = .ok (.return_, 1) := by decide +kernel
theorem d66_0 : decode (mm_cb 66) 0 = .ok (.iload_n 0, 1) := by decide +kernel
theorem d66_1 : decode (mm_cb 66) 1 = .ok (.ifCond .lt 10, 3) := by decide +kernel
theorem d66_4 : decode (mm_cb 66) 4 = .ok (.iload_n 0, 1) := by decide +kernel
theorem d66_5 : decode (mm_cb 66) 5 = .ok (.sipush 256, 3) := by decide +kernel
theorem d66_8 : decode (mm_cb 66) 8 = .ok (.if_icmp .lt 5, 3) := by decide +kernel
theorem d66_11 : decode (mm_cb 66) 11 = .ok (.iconst 0, 1) := by decide +kernel
theorem d66_12 : decode (mm_cb 66) 12 = .ok (.ireturn, 1) := by decide +kernel
theorem d66_13 : decode (mm_cb 66) 13 = .ok (.iload_n 0, 1) := by decide +kernel
theorem d66_14 : decode (mm_cb 66) 14 = .ok (.istore_n 1, 1) := by decide +kernel
theorem d66_15 : decode (mm_cb 66) 15 = .ok (.iload_n 1, 1) := by decide +kernel
theorem d66_16 : decode (mm_cb 66) 16 = .ok (.ifCond .le 18, 3) := by decide +kernel
theorem d66_19 : decode (mm_cb 66) 19 = .ok (.iload_n 1, 1) := by decide +kernel
theorem d66_20 : decode (mm_cb 66) 20 = .ok (.iconst 3, 1) := by decide +kernel
theorem d66_21 : decode (mm_cb 66) 21 = .ok (.iand, 1) := by decide +kernel
theorem d66_22 : decode (mm_cb 66) 22 = .ok (.ifCond .ne 5, 3) := by decide +kernel
theorem d66_25 : decode (mm_cb 66) 25 = .ok (.iconst 0, 1) := by decide +kernel
theorem d66_26 : decode (mm_cb 66) 26 = .ok (.ireturn, 1) := by decide +kernel
theorem d66_27 : decode (mm_cb 66) 27 = .ok (.iload_n 1, 1) := by decide +kernel
theorem d66_28 : decode (mm_cb 66) 28 = .ok (.iconst 2, 1) := by decide +kernel
theorem d66_29 : decode (mm_cb 66) 29 = .ok (.ishr, 1) := by decide +kernel
theorem d66_30 : decode (mm_cb 66) 30 = .ok (.istore_n 1, 1) := by decide +kernel
theorem d66_31 : decode (mm_cb 66) 31 = .ok (.goto (-16), 3) := by decide +kernel
theorem d66_34 : decode (mm_cb 66) 34 = .ok (.iconst 1, 1) := by decide +kernel
theorem d66_35 : decode (mm_cb 66) 35 = .ok (.ireturn, 1) := by decide +kernel
theorem d67_0 : decode (mm_cb 67) 0 = .ok (.aload_n 0, 1) := by decide +kernel
theorem d67_1 : decode (mm_cb 67) 1 = .ok (.getfield 60, 3) := by decide +kernel
theorem d67_4 : decode (mm_cb 67) 4 = .ok (.invokevirtual 231, 3) := by decide +kernel
theorem d67_7 : decode (mm_cb 67) 7 = .ok (.bipush 20, 2) := by decide +kernel
theorem d67_9 : decode (mm_cb 67) 9 = .ok (.if_icmp .lt 13, 3) := by decide +kernel
theorem d67_12 : decode (mm_cb 67) 12 = .ok (.new 100, 3) := by decide +kernel
theorem d67_15 : decode (mm_cb 67) 15 = .ok (.dup, 1) := by decide +kernel
theorem d67_16 : decode (mm_cb 67) 16 = .ok (.ldc 234, 2) := by decide +kernel
theorem d67_18 : decode (mm_cb 67) 18 = .ok (.invokespecial 104, 3) := by decide +kernel
theorem d67_21 : decode (mm_cb 67) 21 = .ok (.athrow, 1) := by decide +kernel
theorem d67_22 : decode (mm_cb 67) 22 = .ok (.return_, 1) := by decide +kernel
theorem d68_0 : decode (mm_cb 68) 0 = .ok (.aload_n 0, 1) := by decide +kernel
theorem d68_1 : decode (mm_cb 68) 1 = .ok (.getfield 24, 3) := by decide +kernel
theorem d68_4 : decode (mm_cb 68) 4 = .ok (.ireturn, 1) := by decide +kernel
theorem d69_0 : decode (mm_cb 69) 0 = .ok (.aload_n 0, 1) := by decide +kernel
theorem d69_1 : decode (mm_cb 69) 1 = .ok (.getfield 9, 3) := by decide +kernel
theorem d69_4 : decode (mm_cb 69) 4 = .ok (.aload_n 0, 1) := by decide +kernel
theorem d69_5 : decode (mm_cb 69) 5 = .ok (.getfield 24, 3) := by decide +kernel
theorem d69_8 : decode (mm_cb 69) 8 = .ok (.iload_n 1, 1) := by decide +kernel
theorem d69_9 : decode (mm_cb 69) 9 = .ok (.iastore, 1) := by decide +kernel
theorem d69_10 : decode (mm_cb 69) 10 = .ok (.aload_n 0, 1) := by decide +kernel
theorem d69_11 : decode (mm_cb 69) 11 = .ok (.getfield 15, 3) := by decide +kernel
theorem d69_14 : decode (mm_cb 69) 14 = .ok (.aload_n 0, 1) := by decide +kernel
theorem d69_15 : decode (mm_cb 69) 15 = .ok (.getfield 24, 3) := by decide +kernel
theorem d69_18 : decode (mm_cb 69) 18 = .ok (.iload_n 2, 1) := by decide +kernel
theorem d69_19 : decode (mm_cb 69) 19 = .ok (.iastore, 1) := by decide +kernel
theorem d69_20 : decode (mm_cb 69) 20 = .ok (.aload_n 0, 1) := by decide +kernel
theorem d69_21 : decode (mm_cb 69) 21 = .ok (.getfield 18, 3) := by decide +kernel
theorem d69_24 : decode (mm_cb 69) 24 = .ok (.aload_n 0, 1) := by decide +kernel
theorem d69_25 : decode (mm_cb 69) 25 = .ok (.getfield 24, 3) := by decide +kernel
theorem d69_28 : decode (mm_cb 69) 28 = .ok (.iload_n 3, 1) := by decide +kernel
theorem d69_29 : decode (mm_cb 69) 29 = .ok (.iastore, 1) := by decide +kernel
theorem d69_30 : decode (mm_cb 69) 30 = .ok (.aload_n 0, 1) := by decide +kernel
theorem d69_31 : decode (mm_cb 69) 31 = .ok (.getfield 21, 3) := by decide +kernel
theorem d69_34 : decode (mm_cb 69) 34 = .ok (.aload_n 0, 1) := by decide +kernel
theorem d69_35 : decode (mm_cb 69) 35 = .ok (.getfield 28, 3) := by decide +kernel
theorem d69_38 : decode (mm_cb 69) 38 = .ok (.aload_n 0, 1) := by decide +kernel
theorem d69_39 : decode (mm_cb 69) 39 = .ok (.getfield 24, 3) := by decide +kernel
theorem d69_42 : decode (mm_cb 69) 42 = .ok (.iastore, 1) := by decide +kernel
theorem d69_43 : decode (mm_cb 69) 43 = .ok (.aload_n 0, 1) := by decide +kernel
theorem d69_44 : decode (mm_cb 69) 44 = .ok (.dup, 1) := by decide +kernel
theorem d69_45 : decode (mm_cb 69) 45 = .ok (.getfield 24, 3) := by decide +kernel
theorem d69_48 : decode (mm_cb 69) 48 = .ok (.iconst 1, 1) := by decide +kernel
theorem d69_49 : decode (mm_cb 69) 49 = .ok (.iadd, 1) := by decide +kernel
theorem d69_50 : decode (mm_cb 69) 50 = .ok (.putfield 24, 3) := by decide +kernel
theorem d69_53 : decode (mm_cb 69) 53 = .ok (.aload_n 0, 1) := by decide +kernel
theorem d69_54 : decode (mm_cb 69) 54 = .ok (.dup, 1) := by decide +kernel
theorem d69_55 : decode (mm_cb 69) 55 = .ok (.getfield 28, 3) := by decide +kernel
theorem d69_58 : decode (mm_cb 69) 58 = .ok (.iconst 1, 1) := by decide +kernel
theorem d69_59 : decode (mm_cb 69) 59 = .ok (.iadd, 1) := by decide +kernel
theorem d69_60 : decode (mm_cb 69) 60 = .ok (.putfield 28, 3) := by decide +kernel
theorem d69_63 : decode (mm_cb 69) 63 = .ok (.aload_n 0, 1) := by decide +kernel
theorem d69_64 : decode (mm_cb 69) 64 = .ok (.getfield 28, 3) := by decide +kernel
theorem d69_67 : decode (mm_cb 69) 67 = .ok (.ireturn, 1) := by decide +kernel
theorem d70_0 : decode (mm_cb 70) 0 = .ok (.aload_n 3, 1) := by decide +kernel
theorem d70_1 : decode (mm_cb 70) 1 = .ok (.iconst 0, 1) := by decide +kernel
theorem d70_2 : decode (mm_cb 70) 2 = .ok (.aload_n 0, 1) := by decide +kernel
theorem d70_3 : decode (mm_cb 70) 3 = .ok (.iload_n 1, 1) := by decide +kernel
theorem d70_4 : decode (mm_cb 70) 4 = .ok (.iload_n 2, 1) := by decide +kernel
theorem d70_5 : decode (mm_cb 70) 5 = .ok (.invokevirtual 37, 3) := by decide +kernel
theorem d70_8 : decode (mm_cb 70) 8 = .ok (.i2l, 1) := by decide +kernel
theorem d70_9 : decode (mm_cb 70) 9 = .ok (.lastore, 1) := by decide +kernel
theorem d70_10 : decode (mm_cb 70) 10 = .ok (.goto 11, 3) := by decide +kernel
theorem d70_13 : decode (mm_cb 70) 13 = .ok (.astore 4, 2) := by decide +kernel
theorem d70_15 : decode (mm_cb 70) 15 = .ok (.iconst 1, 1) := by decide +kernel
theorem d70_16 : decode (mm_cb 70) 16 = .ok (.ireturn, 1) := by decide +kernel
theorem d70_17 : decode (mm_cb 70) 17 = .ok (.astore 4, 2) := by decide +kernel
theorem d70_19 : decode (mm_cb 70) 19 = .ok (.iconst 2, 1) := by decide +kernel
theorem d70_20 : decode (mm_cb 70) 20 = .ok (.ireturn, 1) := by decide +kernel
theorem d70_21 : decode (mm_cb 70) 21 = .ok (.iconst 0, 1) := by decide +kernel
theorem d70_22 : decode (mm_cb 70) 22 = .ok (.ireturn, 1) := by decide +kernel
theorem d71_0 : decode (mm_cb 71) 0 = .ok (.iload_n 1, 1) := by decide +kernel
theorem d71_1 : decode (mm_cb 71) 1 = .ok (.invokestatic 146, 3) := by decide +kernel
theorem d71_4 : decode (mm_cb 71) 4 = .ok (.iload_n 2, 1) := by decide +kernel
theorem d71_5 : decode (mm_cb 71) 5 = .ok (.invokestatic 146, 3) := by decide +kernel
theorem d71_8 : decode (mm_cb 71) 8 = .ok (.aload_n 0, 1) := by decide +kernel
theorem d71_9 : decode (mm_cb 71) 9 = .ok (.invokevirtual 151, 3) := by decide +kernel
theorem d71_12 : decode (mm_cb 71) 12 = .ok (.aload_n 0, 1) := by decide +kernel
theorem d71_13 : decode (mm_cb 71) 13 = .ok (.getfield 60, 3) := by decide +kernel
theorem d71_16 : decode (mm_cb 71) 16 = .ok (.iconst 4, 1) := by decide +kernel
theorem d71_17 : decode (mm_cb 71) 17 = .ok (.iload_n 1, 1) := by decide +kernel
theorem d71_18 : decode (mm_cb 71) 18 = .ok (.iload_n 2, 1) := by decide +kernel
theorem d71_19 : decode (mm_cb 71) 19 = .ok (.invokevirtual 154, 3) := by decide +kernel
theorem d71_22 : decode (mm_cb 71) 22 = .ok (.ireturn, 1) := by decide +kernel
theorem d72_0 : decode (mm_cb 72) 0 = .ok (.aload_n 2, 1) := by decide +kernel
theorem d72_1 : decode (mm_cb 72) 1 = .ok (.iconst 0, 1) := by decide +kernel
theorem d72_2 : decode (mm_cb 72) 2 = .ok (.aload_n 0, 1) := by decide +kernel
theorem d72_3 : decode (mm_cb 72) 3 = .ok (.iload_n 1, 1) := by decide +kernel
theorem d72_4 : decode (mm_cb 72) 4 = .ok (.invokevirtual 40, 3) := by decide +kernel
theorem d72_7 : decode (mm_cb 72) 7 = .ok (.i2l, 1) := by decide +kernel
theorem d72_8 : decode (mm_cb 72) 8 = .ok (.lastore, 1) := by decide +kernel
theorem d72_9 : decode (mm_cb 72) 9 = .ok (.goto 9, 3) := by decide +kernel
theorem d72_12 : decode (mm_cb 72) 12 = .ok (.astore_n 3, 1) := by decide +kernel
theorem d72_13 : decode (mm_cb 72) 13 = .ok (.iconst 1, 1) := by decide +kernel
theorem d72_14 : decode (mm_cb 72) 14 = .ok (.ireturn, 1) := by decide +kernel
theorem d72_15 : decode (mm_cb 72) 15 = .ok (.astore_n 3, 1) := by decide +kernel
theorem d72_16 : decode (mm_cb 72) 16 = .ok (.iconst 2, 1) := by decide +kernel
theorem d72_17 : decode (mm_cb 72) 17 = .ok (.ireturn, 1) := by decide +kernel
theorem d72_18 : decode (mm_cb 72) 18 = .ok (.iconst 0, 1) := by decide +kernel
theorem d72_19 : decode (mm_cb 72) 19 = .ok (.ireturn, 1) := by decide +kernel
theorem d73_0 : decode (mm_cb 73) 0 = .ok (.iload_n 1, 1) := by decide +kernel
theorem d73_1 : decode (mm_cb 73) 1 = .ok (.ifCond .lt 8, 3) := by decide +kernel
theorem d73_4 : decode (mm_cb 73) 4 = .ok (.iload_n 1, 1) := by decide +kernel
theorem d73_5 : decode (mm_cb 73) 5 = .ok (.iconst 2, 1) := by decide +kernel
theorem d73_6 : decode (mm_cb 73) 6 = .ok (.if_icmp .le 13, 3) := by decide +kernel
theorem d73_9 : decode (mm_cb 73) 9 = .ok (.new 85, 3) := by decide +kernel
theorem d73_12 : decode (mm_cb 73) 12 = .ok (.dup, 1) := by decide +kernel
theorem d73_13 : decode (mm_cb 73) 13 = .ok (.ldc 158, 2) := by decide +kernel
theorem d73_15 : decode (mm_cb 73) 15 = .ok (.invokespecial 89, 3) := by decide +kernel
theorem d73_18 : decode (mm_cb 73) 18 = .ok (.athrow, 1) := by decide +kernel
theorem d73_19 : decode (mm_cb 73) 19 = .ok (.aload_n 0, 1) := by decide +kernel
theorem d73_20 : decode (mm_cb 73) 20 = .ok (.getfield 60, 3) := by decide +kernel
theorem d73_23 : decode (mm_cb 73) 23 = .ok (.invokevirtual 160, 3) := by decide +kernel
theorem d73_26 : decode (mm_cb 73) 26 = .ok (.iload_n 1, 1) := by decide +kernel
theorem d73_27 : decode (mm_cb 73) 27 = .ok (.invokestatic 163, 3) := by decide +kernel
theorem d73_30 : decode (mm_cb 73) 30 = .ok (.if_icmp .ge 13, 3) := by decide +kernel
theorem d73_33 : decode (mm_cb 73) 33 = .ok (.new 100, 3) := by decide +kernel
theorem d73_36 : decode (mm_cb 73) 36 = .ok (.dup, 1) := by decide +kernel
theorem d73_37 : decode (mm_cb 73) 37 = .ok (.ldc 166, 2) := by decide +kernel
theorem d73_39 : decode (mm_cb 73) 39 = .ok (.invokespecial 104, 3) := by decide +kernel
theorem d73_42 : decode (mm_cb 73) 42 = .ok (.athrow, 1) := by decide +kernel
theorem d73_43 : decode (mm_cb 73) 43 = .ok (.aload_n 0, 1) := by decide +kernel
theorem d73_44 : decode (mm_cb 73) 44 = .ok (.invokevirtual 151, 3) := by decide +kernel
theorem d73_47 : decode (mm_cb 73) 47 = .ok (.aload_n 0, 1) := by decide +kernel
theorem d73_48 : decode (mm_cb 73) 48 = .ok (.getfield 60, 3) := by decide +kernel
theorem d73_51 : decode (mm_cb 73) 51 = .ok (.iload_n 1, 1) := by decide +kernel
theorem d73_52 : decode (mm_cb 73) 52 = .ok (.invokevirtual 168, 3) := by decide +kernel
theorem d73_55 : decode (mm_cb 73) 55 = .ok (.ireturn, 1) := by decide +kernel
theorem d74_0 : decode (mm_cb 74) 0 = .ok (.aload_n 0, 1) := by decide +kernel
theorem d74_1 : decode (mm_cb 74) 1 = .ok (.getfield 28, 3) := by decide +kernel
theorem d74_4 : decode (mm_cb 74) 4 = .ok (.ireturn, 1) := by decide +kernel
theorem d75_0 : decode (mm_cb 75) 0 = .ok (.iload_n 0, 1) := by decide +kernel
theorem d75_1 : decode (mm_cb 75) 1 = .ok (.iconst 2, 1) := by decide +kernel
theorem d75_2 : decode (mm_cb 75) 2 = .ok (.if_icmp .ne 7, 3) := by decide +kernel
theorem d75_5 : decode (mm_cb 75) 5 = .ok (.iconst 1, 1) := by decide +kernel
theorem d75_6 : decode (mm_cb 75) 6 = .ok (.goto 4, 3) := by decide +kernel
theorem d75_9 : decode (mm_cb 75) 9 = .ok (.iconst 2, 1) := by decide +kernel
theorem d75_10 : decode (mm_cb 75) 10 = .ok (.ireturn, 1) := by decide +kernel
theorem d76_0 : decode (mm_cb 76) 0 = .ok (.aload_n 0, 1) := by decide +kernel
theorem d76_1 : decode (mm_cb 76) 1 = .ok (.getfield 21, 3) := by decide +kernel
theorem d76_4 : decode (mm_cb 76) 4 = .ok (.aload_n 0, 1) := by decide +kernel
theorem d76_5 : decode (mm_cb 76) 5 = .ok (.getfield 28, 3) := by decide +kernel
theorem d76_8 : decode (mm_cb 76) 8 = .ok (.iload_n 1, 1) := by decide +kernel
theorem d76_9 : decode (mm_cb 76) 9 = .ok (.invokestatic 31, 3) := by decide +kernel
theorem d76_12 : decode (mm_cb 76) 12 = .ok (.isub, 1) := by decide +kernel
theorem d76_13 : decode (mm_cb 76) 13 = .ok (.iaload, 1) := by decide +kernel
theorem d76_14 : decode (mm_cb 76) 14 = .ok (.istore_n 2, 1) := by decide +kernel
theorem d76_15 : decode (mm_cb 76) 15 = .ok (.aload_n 0, 1) := by decide +kernel
theorem d76_16 : decode (mm_cb 76) 16 = .ok (.getfield 21, 3) := by decide +kernel
theorem d76_19 : decode (mm_cb 76) 19 = .ok (.aload_n 0, 1) := by decide +kernel
theorem d76_20 : decode (mm_cb 76) 20 = .ok (.getfield 28, 3) := by decide +kernel
theorem d76_23 : decode (mm_cb 76) 23 = .ok (.iconst 1, 1) := by decide +kernel
theorem d76_24 : decode (mm_cb 76) 24 = .ok (.isub, 1) := by decide +kernel
theorem d76_25 : decode (mm_cb 76) 25 = .ok (.iaload, 1) := by decide +kernel
theorem d76_26 : decode (mm_cb 76) 26 = .ok (.istore_n 3, 1) := by decide +kernel
theorem d76_27 : decode (mm_cb 76) 27 = .ok (.aload_n 0, 1) := by decide +kernel
theorem d76_28 : decode (mm_cb 76) 28 = .ok (.dup, 1) := by decide +kernel
theorem d76_29 : decode (mm_cb 76) 29 = .ok (.getfield 28, 3) := by decide +kernel
theorem d76_32 : decode (mm_cb 76) 32 = .ok (.iload_n 1, 1) := by decide +kernel
theorem d76_33 : decode (mm_cb 76) 33 = .ok (.invokestatic 31, 3) := by decide +kernel
theorem d76_36 : decode (mm_cb 76) 36 = .ok (.isub, 1) := by decide +kernel
theorem d76_37 : decode (mm_cb 76) 37 = .ok (.putfield 28, 3) := by decide +kernel
theorem d76_40 : decode (mm_cb 76) 40 = .ok (.aload_n 0, 1) := by decide +kernel
theorem d76_41 : decode (mm_cb 76) 41 = .ok (.iload_n 1, 1) := by decide +kernel
theorem d76_42 : decode (mm_cb 76) 42 = .ok (.iload_n 2, 1) := by decide +kernel
theorem d76_43 : decode (mm_cb 76) 43 = .ok (.iload_n 3, 1) := by decide +kernel
theorem d76_44 : decode (mm_cb 76) 44 = .ok (.invokevirtual 35, 3) := by decide +kernel
theorem d76_47 : decode (mm_cb 76) 47 = .ok (.ireturn, 1) := by decide +kernel
theorem d77_0 : decode (mm_cb 77) 0 = .ok (.aload_n 3, 1) := by decide +kernel
theorem d77_1 : decode (mm_cb 77) 1 = .ok (.iconst 0, 1) := by decide +kernel
theorem d77_2 : decode (mm_cb 77) 2 = .ok (.aload_n 0, 1) := by decide +kernel
theorem d77_3 : decode (mm_cb 77) 3 = .ok (.iload_n 1, 1) := by decide +kernel
theorem d77_4 : decode (mm_cb 77) 4 = .ok (.iload_n 2, 1) := by decide +kernel
theorem d77_5 : decode (mm_cb 77) 5 = .ok (.invokevirtual 44, 3) := by decide +kernel
theorem d77_8 : decode (mm_cb 77) 8 = .ok (.i2l, 1) := by decide +kernel
theorem d77_9 : decode (mm_cb 77) 9 = .ok (.lastore, 1) := by decide +kernel
theorem d77_10 : decode (mm_cb 77) 10 = .ok (.goto 15, 3) := by decide +kernel
theorem d77_13 : decode (mm_cb 77) 13 = .ok (.astore 4, 2) := by decide +kernel
theorem d77_15 : decode (mm_cb 77) 15 = .ok (.iconst 1, 1) := by decide +kernel
theorem d77_16 : decode (mm_cb 77) 16 = .ok (.ireturn, 1) := by decide +kernel
theorem d77_17 : decode (mm_cb 77) 17 = .ok (.astore 4, 2) := by decide +kernel
theorem d77_19 : decode (mm_cb 77) 19 = .ok (.iconst 2, 1) := by decide +kernel
theorem d77_20 : decode (mm_cb 77) 20 = .ok (.ireturn, 1) := by decide +kernel
theorem d77_21 : decode (mm_cb 77) 21 = .ok (.astore 4, 2) := by decide +kernel
theorem d77_23 : decode (mm_cb 77) 23 = .ok (.iconst 3, 1) := by decide +kernel
theorem d77_24 : decode (mm_cb 77) 24 = .ok (.ireturn, 1) := by decide +kernel
theorem d77_25 : decode (mm_cb 77) 25 = .ok (.iconst 0, 1) := by decide +kernel
theorem d77_26 : decode (mm_cb 77) 26 = .ok (.ireturn, 1) := by decide +kernel
theorem d78_0 : decode (mm_cb 78) 0 = .ok (.iload_n 1, 1) := by decide +kernel
theorem d78_1 : decode (mm_cb 78) 1 = .ok (.invokestatic 81, 3) := by decide +kernel
theorem d78_4 : decode (mm_cb 78) 4 = .ok (.iload_n 2, 1) := by decide +kernel
theorem d78_5 : decode (mm_cb 78) 5 = .ok (.invokestatic 113, 3) := by decide +kernel
theorem d78_8 : decode (mm_cb 78) 8 = .ok (.aload_n 0, 1) := by decide +kernel
theorem d78_9 : decode (mm_cb 78) 9 = .ok (.invokevirtual 174, 3) := by decide +kernel
theorem d78_12 : decode (mm_cb 78) 12 = .ok (.aload_n 0, 1) := by decide +kernel
theorem d78_13 : decode (mm_cb 78) 13 = .ok (.getfield 21, 3) := by decide +kernel
theorem d78_16 : decode (mm_cb 78) 16 = .ok (.iload_n 1, 1) := by decide +kernel
theorem d78_17 : decode (mm_cb 78) 17 = .ok (.iload_n 2, 1) := by decide +kernel
theorem d78_18 : decode (mm_cb 78) 18 = .ok (.invokevirtual 116, 3) := by decide +kernel
theorem d78_21 : decode (mm_cb 78) 21 = .ok (.lstore_n 3, 1) := by decide +kernel
theorem d78_22 : decode (mm_cb 78) 22 = .ok (.lload_n 3, 1) := by decide +kernel
theorem d78_23 : decode (mm_cb 78) 23 = .ok (.ldc2_w 177, 3) := by decide +kernel
theorem d78_26 : decode (mm_cb 78) 26 = .ok (.lcmp, 1) := by decide +kernel
theorem d78_27 : decode (mm_cb 78) 27 = .ok (.ifCond .le 13, 3) := by decide +kernel
theorem d78_30 : decode (mm_cb 78) 30 = .ok (.new 100, 3) := by decide +kernel
theorem d78_33 : decode (mm_cb 78) 33 = .ok (.dup, 1) := by decide +kernel
theorem d78_34 : decode (mm_cb 78) 34 = .ok (.ldc 179, 2) := by decide +kernel
theorem d78_36 : decode (mm_cb 78) 36 = .ok (.invokespecial 104, 3) := by decide +kernel
theorem d78_39 : decode (mm_cb 78) 39 = .ok (.athrow, 1) := by decide +kernel
theorem d78_40 : decode (mm_cb 78) 40 = .ok (.aload_n 0, 1) := by decide +kernel
theorem d78_41 : decode (mm_cb 78) 41 = .ok (.iload_n 1, 1) := by decide +kernel
theorem d78_42 : decode (mm_cb 78) 42 = .ok (.iload_n 2, 1) := by decide +kernel
theorem d78_43 : decode (mm_cb 78) 43 = .ok (.lload_n 3, 1) := by decide +kernel
theorem d78_44 : decode (mm_cb 78) 44 = .ok (.l2i, 1) := by decide +kernel
theorem d78_45 : decode (mm_cb 78) 45 = .ok (.invokevirtual 181, 3) := by decide +kernel
theorem d78_48 : decode (mm_cb 78) 48 = .ok (.istore 5, 2) := by decide +kernel
theorem d78_50 : decode (mm_cb 78) 50 = .ok (.aload_n 0, 1) := by decide +kernel
theorem d78_51 : decode (mm_cb 78) 51 = .ok (.iload 5, 2) := by decide +kernel
theorem d78_53 : decode (mm_cb 78) 53 = .ok (.iconst (-1), 1) := by decide +kernel
theorem d78_54 : decode (mm_cb 78) 54 = .ok (.if_icmp .ne 8, 3) := by decide +kernel
theorem d78_57 : decode (mm_cb 78) 57 = .ok (.lload_n 3, 1) := by decide +kernel
theorem d78_58 : decode (mm_cb 78) 58 = .ok (.l2i, 1) := by decide +kernel
theorem d78_59 : decode (mm_cb 78) 59 = .ok (.goto 7, 3) := by decide +kernel
theorem d78_62 : decode (mm_cb 78) 62 = .ok (.iload 5, 2) := by decide +kernel
theorem d78_64 : decode (mm_cb 78) 64 = .ok (.iconst 1, 1) := by decide +kernel
theorem d78_65 : decode (mm_cb 78) 65 = .ok (.iadd, 1) := by decide +kernel
theorem d78_66 : decode (mm_cb 78) 66 = .ok (.putfield 73, 3) := by decide +kernel
theorem d78_69 : decode (mm_cb 78) 69 = .ok (.aload_n 0, 1) := by decide +kernel
theorem d78_70 : decode (mm_cb 78) 70 = .ok (.iload 5, 2) := by decide +kernel
theorem d78_72 : decode (mm_cb 78) 72 = .ok (.iconst (-1), 1) := by decide +kernel
theorem d78_73 : decode (mm_cb 78) 73 = .ok (.if_icmp .ne 7, 3) := by decide +kernel
theorem d78_76 : decode (mm_cb 78) 76 = .ok (.lload_n 3, 1) := by decide +kernel
theorem d78_77 : decode (mm_cb 78) 77 = .ok (.goto 6, 3) := by decide +kernel
theorem d78_80 : decode (mm_cb 78) 80 = .ok (.iload 5, 2) := by decide +kernel
theorem d78_82 : decode (mm_cb 78) 82 = .ok (.i2l, 1) := by decide +kernel
theorem d78_83 : decode (mm_cb 78) 83 = .ok (.putfield 77, 3) := by decide +kernel
theorem d78_86 : decode (mm_cb 78) 86 = .ok (.iload 5, 2) := by decide +kernel
theorem d78_88 : decode (mm_cb 78) 88 = .ok (.iconst (-1), 1) := by decide +kernel
theorem d78_89 : decode (mm_cb 78) 89 = .ok (.if_icmp .eq 14, 3) := by decide +kernel
theorem d78_92 : decode (mm_cb 78) 92 = .ok (.aload_n 0, 1) := by decide +kernel
theorem d78_93 : decode (mm_cb 78) 93 = .ok (.getfield 44, 3) := by decide +kernel
theorem d78_96 : decode (mm_cb 78) 96 = .ok (.aload_n 0, 1) := by decide +kernel
theorem d78_97 : decode (mm_cb 78) 97 = .ok (.getfield 35, 3) := by decide +kernel
theorem d78_100 : decode (mm_cb 78) 100 = .ok (.invokevirtual 128, 3) := by decide +kernel
theorem d78_103 : decode (mm_cb 78) 103 = .ok (.iload 5, 2) := by decide +kernel
theorem d78_105 : decode (mm_cb 78) 105 = .ok (.ireturn, 1) := by decide +kernel
theorem d79_0 : decode (mm_cb 79) 0 = .ok (.aload_n 0, 1) := by decide +kernel
theorem d79_1 : decode (mm_cb 79) 1 = .ok (.getfield 60, 3) := by decide +kernel
theorem d79_4 : decode (mm_cb 79) 4 = .ok (.invokevirtual 160, 3) := by decide +kernel
theorem d79_7 : decode (mm_cb 79) 7 = .ok (.ifCond .ne 13, 3) := by decide +kernel
theorem d79_10 : decode (mm_cb 79) 10 = .ok (.new 100, 3) := by decide +kernel
theorem d79_13 : decode (mm_cb 79) 13 = .ok (.dup, 1) := by decide +kernel
theorem d79_14 : decode (mm_cb 79) 14 = .ok (.ldc 236, 2) := by decide +kernel
theorem d79_16 : decode (mm_cb 79) 16 = .ok (.invokespecial 104, 3) := by decide +kernel
theorem d79_19 : decode (mm_cb 79) 19 = .ok (.athrow, 1) := by decide +kernel
theorem d79_20 : decode (mm_cb 79) 20 = .ok (.return_, 1) := by decide +kernel
theorem d80_0 : decode (mm_cb 80) 0 = .ok (.iconst 0, 1) := by decide +kernel
theorem d80_1 : decode (mm_cb 80) 1 = .ok (.istore 4, 2) := by decide +kernel
theorem d80_3 : decode (mm_cb 80) 3 = .ok (.iload 4, 2) := by decide +kernel
theorem d80_5 : decode (mm_cb 80) 5 = .ok (.iload_n 3, 1) := by decide +kernel
theorem d80_6 : decode (mm_cb 80) 6 = .ok (.if_icmp .ge 40, 3) := by decide +kernel
theorem d80_9 : decode (mm_cb 80) 9 = .ok (.aload_n 0, 1) := by decide +kernel
theorem d80_10 : decode (mm_cb 80) 10 = .ok (.getfield 44, 3) := by decide +kernel
theorem d80_13 : decode (mm_cb 80) 13 = .ok (.iload_n 1, 1) := by decide +kernel
theorem d80_14 : decode (mm_cb 80) 14 = .ok (.iload_n 2, 1) := by decide +kernel
theorem d80_15 : decode (mm_cb 80) 15 = .ok (.iload 4, 2) := by decide +kernel
theorem d80_17 : decode (mm_cb 80) 17 = .ok (.i2l, 1) := by decide +kernel
theorem d80_18 : decode (mm_cb 80) 18 = .ok (.invokevirtual 124, 3) := by decide +kernel
theorem d80_21 : decode (mm_cb 80) 21 = .ok (.aload_n 0, 1) := by decide +kernel
theorem d80_22 : decode (mm_cb 80) 22 = .ok (.getfield 60, 3) := by decide +kernel
theorem d80_25 : decode (mm_cb 80) 25 = .ok (.aload_n 0, 1) := by decide +kernel
theorem d80_26 : decode (mm_cb 80) 26 = .ok (.getfield 44, 3) := by decide +kernel
theorem d80_29 : decode (mm_cb 80) 29 = .ok (.invokevirtual 206, 3) := by decide +kernel
theorem d80_32 : decode (mm_cb 80) 32 = .ok (.bipush (-2), 2) := by decide +kernel
theorem d80_34 : decode (mm_cb 80) 34 = .ok (.if_icmp .ne 6, 3) := by decide +kernel
theorem d80_37 : decode (mm_cb 80) 37 = .ok (.iload 4, 2) := by decide +kernel
theorem d80_39 : decode (mm_cb 80) 39 = .ok (.ireturn, 1) := by decide +kernel
theorem d80_40 : decode (mm_cb 80) 40 = .ok (.iinc 4 1, 3) := by decide +kernel
theorem d80_43 : decode (mm_cb 80) 43 = .ok (.goto (-40), 3) := by decide +kernel
theorem d80_46 : decode (mm_cb 80) 46 = .ok (.iconst (-1), 1) := by decide +kernel
theorem d80_47 : decode (mm_cb 80) 47 = .ok (.ireturn, 1) := by decide +kernel
theorem d81_0 : decode (mm_cb 81) 0 = .ok (.aload_n 0, 1) := by decide +kernel
theorem d81_1 : decode (mm_cb 81) 1 = .ok (.aload_n 0, 1) := by decide +kernel
theorem d81_2 : decode (mm_cb 81) 2 = .ok (.getfield 21, 3) := by decide +kernel
theorem d81_5 : decode (mm_cb 81) 5 = .ok (.aload_n 0, 1) := by decide +kernel
theorem d81_6 : decode (mm_cb 81) 6 = .ok (.getfield 28, 3) := by decide +kernel
theorem d81_9 : decode (mm_cb 81) 9 = .ok (.iconst 1, 1) := by decide +kernel
theorem d81_10 : decode (mm_cb 81) 10 = .ok (.isub, 1) := by decide +kernel
theorem d81_11 : decode (mm_cb 81) 11 = .ok (.iaload, 1) := by decide +kernel
theorem d81_12 : decode (mm_cb 81) 12 = .ok (.aload_n 1, 1) := by decide +kernel
theorem d81_13 : decode (mm_cb 81) 13 = .ok (.invokevirtual 39, 3) := by decide +kernel
theorem d81_16 : decode (mm_cb 81) 16 = .ok (.ireturn, 1) := by decide +kernel
theorem d82_0 : decode (mm_cb 82) 0 = .ok (.aload_n 0, 1) := by decide +kernel
theorem d82_1 : decode (mm_cb 82) 1 = .ok (.getfield 15, 3) := by decide +kernel
theorem d82_4 : decode (mm_cb 82) 4 = .ok (.iload_n 1, 1) := by decide +kernel
theorem d82_5 : decode (mm_cb 82) 5 = .ok (.iaload, 1) := by decide +kernel
theorem d82_6 : decode (mm_cb 82) 6 = .ok (.istore_n 3, 1) := by decide +kernel
theorem d82_7 : decode (mm_cb 82) 7 = .ok (.aload_n 0, 1) := by decide +kernel
theorem d82_8 : decode (mm_cb 82) 8 = .ok (.getfield 18, 3) := by decide +kernel
theorem d82_11 : decode (mm_cb 82) 11 = .ok (.iload_n 1, 1) := by decide +kernel
theorem d82_12 : decode (mm_cb 82) 12 = .ok (.iaload, 1) := by decide +kernel
theorem d82_13 : decode (mm_cb 82) 13 = .ok (.istore 4, 2) := by decide +kernel
theorem d82_15 : decode (mm_cb 82) 15 = .ok (.aload_n 0, 1) := by decide +kernel
theorem d82_16 : decode (mm_cb 82) 16 = .ok (.getfield 9, 3) := by decide +kernel
theorem d82_19 : decode (mm_cb 82) 19 = .ok (.iload_n 1, 1) := by decide +kernel
theorem d82_20 : decode (mm_cb 82) 20 = .ok (.iaload, 1) := by decide +kernel
theorem d82_21 : decode (mm_cb 82) 21 = .ok (.tableswitch 53 2 4 #[43, 27, 35], 27) := by decide +kernel
theorem d82_48 : decode (mm_cb 82) 48 = .ok (.aload_n 2, 1) := by decide +kernel
theorem d82_49 : decode (mm_cb 82) 49 = .ok (.iload_n 3, 1) := by decide +kernel
theorem d82_50 : decode (mm_cb 82) 50 = .ok (.iload 4, 2) := by decide +kernel
theorem d82_52 : decode (mm_cb 82) 52 = .ok (.invokevirtual 43, 3) := by decide +kernel
theorem d82_55 : decode (mm_cb 82) 55 = .ok (.ireturn, 1) := by decide +kernel
theorem d82_56 : decode (mm_cb 82) 56 = .ok (.aload_n 2, 1) := by decide +kernel
theorem d82_57 : decode (mm_cb 82) 57 = .ok (.iload_n 3, 1) := by decide +kernel
theorem d82_58 : decode (mm_cb 82) 58 = .ok (.iload 4, 2) := by decide +kernel
theorem d82_60 : decode (mm_cb 82) 60 = .ok (.invokevirtual 49, 3) := by decide +kernel
theorem d82_63 : decode (mm_cb 82) 63 = .ok (.ireturn, 1) := by decide +kernel
theorem d82_64 : decode (mm_cb 82) 64 = .ok (.aload_n 0, 1) := by decide +kernel
theorem d82_65 : decode (mm_cb 82) 65 = .ok (.iload_n 3, 1) := by decide +kernel
theorem d82_66 : decode (mm_cb 82) 66 = .ok (.aload_n 2, 1) := by decide +kernel
theorem d82_67 : decode (mm_cb 82) 67 = .ok (.invokevirtual 39, 3) := by decide +kernel
theorem d82_70 : decode (mm_cb 82) 70 = .ok (.invokestatic 52, 3) := by decide +kernel
theorem d82_73 : decode (mm_cb 82) 73 = .ok (.ireturn, 1) := by decide +kernel
theorem d82_74 : decode (mm_cb 82) 74 = .ok (.aload_n 0, 1) := by decide +kernel
theorem d82_75 : decode (mm_cb 82) 75 = .ok (.iload_n 3, 1) := by decide +kernel
theorem d82_76 : decode (mm_cb 82) 76 = .ok (.aload_n 2, 1) := by decide +kernel
theorem d82_77 : decode (mm_cb 82) 77 = .ok (.invokevirtual 39, 3) := by decide +kernel
theorem d82_80 : decode (mm_cb 82) 80 = .ok (.istore 5, 2) := by decide +kernel
theorem d82_82 : decode (mm_cb 82) 82 = .ok (.aload_n 0, 1) := by decide +kernel
theorem d82_83 : decode (mm_cb 82) 83 = .ok (.getfield 9, 3) := by decide +kernel
theorem d82_86 : decode (mm_cb 82) 86 = .ok (.iload_n 1, 1) := by decide +kernel
theorem d82_87 : decode (mm_cb 82) 87 = .ok (.iaload, 1) := by decide +kernel
theorem d82_88 : decode (mm_cb 82) 88 = .ok (.iconst 1, 1) := by decide +kernel
theorem d82_89 : decode (mm_cb 82) 89 = .ok (.if_icmp .ne 8, 3) := by decide +kernel
theorem d82_92 : decode (mm_cb 82) 92 = .ok (.bipush (-2), 2) := by decide +kernel
theorem d82_94 : decode (mm_cb 82) 94 = .ok (.goto 4, 3) := by decide +kernel
theorem d82_97 : decode (mm_cb 82) 97 = .ok (.iconst (-1), 1) := by decide +kernel
theorem d82_98 : decode (mm_cb 82) 98 = .ok (.istore 6, 2) := by decide +kernel
theorem d82_100 : decode (mm_cb 82) 100 = .ok (.iload 5, 2) := by decide +kernel
theorem d82_102 : decode (mm_cb 82) 102 = .ok (.iload 6, 2) := by decide +kernel
theorem d82_104 : decode (mm_cb 82) 104 = .ok (.if_icmp .ne 13, 3) := by decide +kernel
theorem d82_107 : decode (mm_cb 82) 107 = .ok (.aload_n 0, 1) := by decide +kernel
theorem d82_108 : decode (mm_cb 82) 108 = .ok (.iload 4, 2) := by decide +kernel
theorem d82_110 : decode (mm_cb 82) 110 = .ok (.aload_n 2, 1) := by decide +kernel
theorem d82_111 : decode (mm_cb 82) 111 = .ok (.invokevirtual 39, 3) := by decide +kernel
theorem d82_114 : decode (mm_cb 82) 114 = .ok (.goto 5, 3) := by decide +kernel
theorem d82_117 : decode (mm_cb 82) 117 = .ok (.iload 5, 2) := by decide +kernel
theorem d82_119 : decode (mm_cb 82) 119 = .ok (.ireturn, 1) := by decide +kernel
