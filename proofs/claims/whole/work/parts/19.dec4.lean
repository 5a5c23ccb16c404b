/-! ===== decoded ===== -/
theorem d130_10 : decode (mm_cb 130) 10 = .ok (.iconst 1, 1) := by decide +kernel
theorem d130_11 : decode (mm_cb 130) 11 = .ok (.goto 34, 3) := by decide +kernel
theorem d130_14 : decode (mm_cb 130) 14 = .ok (.aload_n 0, 1) := by decide +kernel
theorem d130_15 : decode (mm_cb 130) 15 = .ok (.getfield 147, 3) := by decide +kernel
theorem d130_18 : decode (mm_cb 130) 18 = .ok (.iload_n 1, 1) := by decide +kernel
theorem d130_19 : decode (mm_cb 130) 19 = .ok (.iconst 2, 1) := by decide +kernel
theorem d130_20 : decode (mm_cb 130) 20 = .ok (.if_icmp .ne 7, 3) := by decide +kernel
theorem d130_23 : decode (mm_cb 130) 23 = .ok (.iconst 1, 1) := by decide +kernel
theorem d130_24 : decode (mm_cb 130) 24 = .ok (.goto 4, 3) := by decide +kernel
theorem d130_27 : decode (mm_cb 130) 27 = .ok (.iconst 2, 1) := by decide +kernel
theorem d130_28 : decode (mm_cb 130) 28 = .ok (.if_icmp .lt 12, 3) := by decide +kernel
theorem d130_31 : decode (mm_cb 130) 31 = .ok (.aload_n 0, 1) := by decide +kernel
theorem d130_32 : decode (mm_cb 130) 32 = .ok (.getfield 144, 3) := by decide +kernel
theorem d130_35 : decode (mm_cb 130) 35 = .ok (.bipush 20, 2) := by decide +kernel
theorem d130_37 : decode (mm_cb 130) 37 = .ok (.if_icmp .ne 7, 3) := by decide +kernel
theorem d130_40 : decode (mm_cb 130) 40 = .ok (.iconst 2, 1) := by decide +kernel
theorem d130_41 : decode (mm_cb 130) 41 = .ok (.goto 4, 3) := by decide +kernel
theorem d130_44 : decode (mm_cb 130) 44 = .ok (.iconst 0, 1) := by decide +kernel
theorem d130_45 : decode (mm_cb 130) 45 = .ok (.putfield 65, 3) := by decide +kernel
theorem d130_48 : decode (mm_cb 130) 48 = .ok (.aload_n 0, 1) := by decide +kernel
theorem d130_49 : decode (mm_cb 130) 49 = .ok (.getfield 65, 3) := by decide +kernel
theorem d130_52 : decode (mm_cb 130) 52 = .ok (.ifCond .le 5, 3) := by decide +kernel
theorem d130_55 : decode (mm_cb 130) 55 = .ok (.iconst 0, 1) := by decide +kernel
theorem d130_56 : decode (mm_cb 130) 56 = .ok (.ireturn, 1) := by decide +kernel
theorem d130_57 : decode (mm_cb 130) 57 = .ok (.aload_n 0, 1) := by decide +kernel
theorem d130_58 : decode (mm_cb 130) 58 = .ok (.getfield 56, 3) := by decide +kernel
theorem d130_61 : decode (mm_cb 130) 61 = .ok (.aload_n 0, 1) := by decide +kernel
theorem d130_62 : decode (mm_cb 130) 62 = .ok (.getfield 147, 3) := by decide +kernel
theorem d130_65 : decode (mm_cb 130) 65 = .ok (.iconst 1, 1) := by decide +kernel
theorem d130_66 : decode (mm_cb 130) 66 = .ok (.isub, 1) := by decide +kernel
theorem d130_67 : decode (mm_cb 130) 67 = .ok (.iaload, 1) := by decide +kernel
theorem d130_68 : decode (mm_cb 130) 68 = .ok (.istore_n 2, 1) := by decide +kernel
theorem d130_69 : decode (mm_cb 130) 69 = .ok (.aload_n 0, 1) := by decide +kernel
theorem d130_70 : decode (mm_cb 130) 70 = .ok (.dup, 1) := by decide +kernel
theorem d130_71 : decode (mm_cb 130) 71 = .ok (.getfield 147, 3) := by decide +kernel
theorem d130_74 : decode (mm_cb 130) 74 = .ok (.iconst 1, 1) := by decide +kernel
theorem d130_75 : decode (mm_cb 130) 75 = .ok (.isub, 1) := by decide +kernel
theorem d130_76 : decode (mm_cb 130) 76 = .ok (.putfield 147, 3) := by decide +kernel
theorem d130_79 : decode (mm_cb 130) 79 = .ok (.iload_n 1, 1) := by decide +kernel
theorem d130_80 : decode (mm_cb 130) 80 = .ok (.iconst 2, 1) := by decide +kernel
theorem d130_81 : decode (mm_cb 130) 81 = .ok (.if_icmp .ne 13, 3) := by decide +kernel
theorem d130_84 : decode (mm_cb 130) 84 = .ok (.aload_n 0, 1) := by decide +kernel
theorem d130_85 : decode (mm_cb 130) 85 = .ok (.iconst 2, 1) := by decide +kernel
theorem d130_86 : decode (mm_cb 130) 86 = .ok (.iload_n 1, 1) := by decide +kernel
theorem d130_87 : decode (mm_cb 130) 87 = .ok (.iadd, 1) := by decide +kernel
theorem d130_88 : decode (mm_cb 130) 88 = .ok (.iload_n 2, 1) := by decide +kernel
theorem d130_89 : decode (mm_cb 130) 89 = .ok (.iload_n 2, 1) := by decide +kernel
theorem d130_90 : decode (mm_cb 130) 90 = .ok (.invokevirtual 153, 3) := by decide +kernel
theorem d130_93 : decode (mm_cb 130) 93 = .ok (.ireturn, 1) := by decide +kernel
theorem d130_94 : decode (mm_cb 130) 94 = .ok (.aload_n 0, 1) := by decide +kernel
theorem d130_95 : decode (mm_cb 130) 95 = .ok (.getfield 56, 3) := by decide +kernel
theorem d130_98 : decode (mm_cb 130) 98 = .ok (.aload_n 0, 1) := by decide +kernel
theorem d130_99 : decode (mm_cb 130) 99 = .ok (.getfield 147, 3) := by decide +kernel
theorem d130_102 : decode (mm_cb 130) 102 = .ok (.iconst 1, 1) := by decide +kernel
theorem d130_103 : decode (mm_cb 130) 103 = .ok (.isub, 1) := by decide +kernel
theorem d130_104 : decode (mm_cb 130) 104 = .ok (.iaload, 1) := by decide +kernel
theorem d130_105 : decode (mm_cb 130) 105 = .ok (.istore_n 3, 1) := by decide +kernel
theorem d130_106 : decode (mm_cb 130) 106 = .ok (.aload_n 0, 1) := by decide +kernel
theorem d130_107 : decode (mm_cb 130) 107 = .ok (.dup, 1) := by decide +kernel
theorem d130_108 : decode (mm_cb 130) 108 = .ok (.getfield 147, 3) := by decide +kernel
theorem d130_111 : decode (mm_cb 130) 111 = .ok (.iconst 1, 1) := by decide +kernel
theorem d130_112 : decode (mm_cb 130) 112 = .ok (.isub, 1) := by decide +kernel
theorem d130_113 : decode (mm_cb 130) 113 = .ok (.putfield 147, 3) := by decide +kernel
theorem d130_116 : decode (mm_cb 130) 116 = .ok (.aload_n 0, 1) := by decide +kernel
theorem d130_117 : decode (mm_cb 130) 117 = .ok (.iconst 2, 1) := by decide +kernel
theorem d130_118 : decode (mm_cb 130) 118 = .ok (.iload_n 1, 1) := by decide +kernel
theorem d130_119 : decode (mm_cb 130) 119 = .ok (.iadd, 1) := by decide +kernel
theorem d130_120 : decode (mm_cb 130) 120 = .ok (.iload_n 3, 1) := by decide +kernel
theorem d130_121 : decode (mm_cb 130) 121 = .ok (.iload_n 2, 1) := by decide +kernel
theorem d130_122 : decode (mm_cb 130) 122 = .ok (.invokevirtual 153, 3) := by decide +kernel
theorem d130_125 : decode (mm_cb 130) 125 = .ok (.ireturn, 1) := by decide +kernel
theorem d131_0 : decode (mm_cb 131) 0 = .ok (.aload_n 0, 1) := by decide +kernel
theorem d131_1 : decode (mm_cb 131) 1 = .ok (.iconst 0, 1) := by decide +kernel
theorem d131_2 : decode (mm_cb 131) 2 = .ok (.putfield 65, 3) := by decide +kernel
theorem d131_5 : decode (mm_cb 131) 5 = .ok (.aload_n 0, 1) := by decide +kernel
theorem d131_6 : decode (mm_cb 131) 6 = .ok (.iconst 0, 1) := by decide +kernel
theorem d131_7 : decode (mm_cb 131) 7 = .ok (.putfield 147, 3) := by decide +kernel
theorem d131_10 : decode (mm_cb 131) 10 = .ok (.aload_n 0, 1) := by decide +kernel
theorem d131_11 : decode (mm_cb 131) 11 = .ok (.iconst 0, 1) := by decide +kernel
theorem d131_12 : decode (mm_cb 131) 12 = .ok (.putfield 144, 3) := by decide +kernel
theorem d131_15 : decode (mm_cb 131) 15 = .ok (.return_, 1) := by decide +kernel
theorem d132_0 : decode (mm_cb 132) 0 = .ok (.aload_n 0, 1) := by decide +kernel
theorem d132_1 : decode (mm_cb 132) 1 = .ok (.iload_n 1, 1) := by decide +kernel
theorem d132_2 : decode (mm_cb 132) 2 = .ok (.iload_n 2, 1) := by decide +kernel
theorem d132_3 : decode (mm_cb 132) 3 = .ok (.invokestatic 101, 3) := by decide +kernel
theorem d132_6 : decode (mm_cb 132) 6 = .ok (.putfield 65, 3) := by decide +kernel
theorem d132_9 : decode (mm_cb 132) 9 = .ok (.aload_n 0, 1) := by decide +kernel
theorem d132_10 : decode (mm_cb 132) 10 = .ok (.getfield 65, 3) := by decide +kernel
theorem d132_13 : decode (mm_cb 132) 13 = .ok (.ifCond .le 5, 3) := by decide +kernel
theorem d132_16 : decode (mm_cb 132) 16 = .ok (.iconst 0, 1) := by decide +kernel
theorem d132_17 : decode (mm_cb 132) 17 = .ok (.ireturn, 1) := by decide +kernel
theorem d132_18 : decode (mm_cb 132) 18 = .ok (.aload_n 0, 1) := by decide +kernel
theorem d132_19 : decode (mm_cb 132) 19 = .ok (.invokevirtual 105, 3) := by decide +kernel
theorem d132_22 : decode (mm_cb 132) 22 = .ok (.aload_n 0, 1) := by decide +kernel
theorem d132_23 : decode (mm_cb 132) 23 = .ok (.getfield 19, 3) := by decide +kernel
theorem d132_26 : decode (mm_cb 132) 26 = .ok (.bipush 6, 2) := by decide +kernel
theorem d132_28 : decode (mm_cb 132) 28 = .ok (.iload_n 1, 1) := by decide +kernel
theorem d132_29 : decode (mm_cb 132) 29 = .ok (.imul, 1) := by decide +kernel
theorem d132_30 : decode (mm_cb 132) 30 = .ok (.iload_n 2, 1) := by decide +kernel
theorem d132_31 : decode (mm_cb 132) 31 = .ok (.iadd, 1) := by decide +kernel
theorem d132_32 : decode (mm_cb 132) 32 = .ok (.iconst 1, 1) := by decide +kernel
theorem d132_33 : decode (mm_cb 132) 33 = .ok (.iadd, 1) := by decide +kernel
theorem d132_34 : decode (mm_cb 132) 34 = .ok (.laload, 1) := by decide +kernel
theorem d132_35 : decode (mm_cb 132) 35 = .ok (.lstore_n 3, 1) := by decide +kernel
theorem d132_36 : decode (mm_cb 132) 36 = .ok (.aload_n 0, 1) := by decide +kernel
theorem d132_37 : decode (mm_cb 132) 37 = .ok (.aload_n 0, 1) := by decide +kernel
theorem d132_38 : decode (mm_cb 132) 38 = .ok (.getfield 147, 3) := by decide +kernel
theorem d132_41 : decode (mm_cb 132) 41 = .ok (.ifCond .eq 11, 3) := by decide +kernel
theorem d132_44 : decode (mm_cb 132) 44 = .ok (.lload_n 3, 1) := by decide +kernel
theorem d132_45 : decode (mm_cb 132) 45 = .ok (.ldc2_w 168, 3) := by decide +kernel
theorem d132_48 : decode (mm_cb 132) 48 = .ok (.lcmp, 1) := by decide +kernel
theorem d132_49 : decode (mm_cb 132) 49 = .ok (.ifCond .le 7, 3) := by decide +kernel
theorem d132_52 : decode (mm_cb 132) 52 = .ok (.iconst 3, 1) := by decide +kernel
theorem d132_53 : decode (mm_cb 132) 53 = .ok (.goto 4, 3) := by decide +kernel
theorem d132_56 : decode (mm_cb 132) 56 = .ok (.iconst 0, 1) := by decide +kernel
theorem d132_57 : decode (mm_cb 132) 57 = .ok (.putfield 65, 3) := by decide +kernel
theorem d132_60 : decode (mm_cb 132) 60 = .ok (.aload_n 0, 1) := by decide +kernel
theorem d132_61 : decode (mm_cb 132) 61 = .ok (.getfield 65, 3) := by decide +kernel
theorem d132_64 : decode (mm_cb 132) 64 = .ok (.ifCond .le 5, 3) := by decide +kernel
theorem d132_67 : decode (mm_cb 132) 67 = .ok (.iconst 0, 1) := by decide +kernel
theorem d132_68 : decode (mm_cb 132) 68 = .ok (.ireturn, 1) := by decide +kernel
theorem d132_69 : decode (mm_cb 132) 69 = .ok (.aload_n 0, 1) := by decide +kernel
theorem d132_70 : decode (mm_cb 132) 70 = .ok (.iconst 0, 1) := by decide +kernel
theorem d132_71 : decode (mm_cb 132) 71 = .ok (.putfield 170, 3) := by decide +kernel
theorem d132_74 : decode (mm_cb 132) 74 = .ok (.aload_n 0, 1) := by decide +kernel
theorem d132_75 : decode (mm_cb 132) 75 = .ok (.lconst 0, 1) := by decide +kernel
theorem d132_76 : decode (mm_cb 132) 76 = .ok (.putfield 173, 3) := by decide +kernel
theorem d132_79 : decode (mm_cb 132) 79 = .ok (.iconst 0, 1) := by decide +kernel
theorem d132_80 : decode (mm_cb 132) 80 = .ok (.istore 5, 2) := by decide +kernel
theorem d132_82 : decode (mm_cb 132) 82 = .ok (.iload 5, 2) := by decide +kernel
theorem d132_84 : decode (mm_cb 132) 84 = .ok (.i2l, 1) := by decide +kernel
theorem d132_85 : decode (mm_cb 132) 85 = .ok (.lload_n 3, 1) := by decide +kernel
theorem d132_86 : decode (mm_cb 132) 86 = .ok (.lcmp, 1) := by decide +kernel
theorem d132_87 : decode (mm_cb 132) 87 = .ok (.ifCond .ge 52, 3) := by decide +kernel
theorem d132_90 : decode (mm_cb 132) 90 = .ok (.aload_n 0, 1) := by decide +kernel
theorem d132_91 : decode (mm_cb 132) 91 = .ok (.iload_n 1, 1) := by decide +kernel
theorem d132_92 : decode (mm_cb 132) 92 = .ok (.iload_n 2, 1) := by decide +kernel
theorem d132_93 : decode (mm_cb 132) 93 = .ok (.iload 5, 2) := by decide +kernel
theorem d132_95 : decode (mm_cb 132) 95 = .ok (.i2l, 1) := by decide +kernel
theorem d132_96 : decode (mm_cb 132) 96 = .ok (.invokevirtual 135, 3) := by decide +kernel
theorem d132_99 : decode (mm_cb 132) 99 = .ok (.aload_n 0, 1) := by decide +kernel
theorem d132_100 : decode (mm_cb 132) 100 = .ok (.dup, 1) := by decide +kernel
theorem d132_101 : decode (mm_cb 132) 101 = .ok (.getfield 170, 3) := by decide +kernel
theorem d132_104 : decode (mm_cb 132) 104 = .ok (.iconst 1, 1) := by decide +kernel
theorem d132_105 : decode (mm_cb 132) 105 = .ok (.iadd, 1) := by decide +kernel
theorem d132_106 : decode (mm_cb 132) 106 = .ok (.putfield 170, 3) := by decide +kernel
theorem d132_109 : decode (mm_cb 132) 109 = .ok (.aload_n 0, 1) := by decide +kernel
theorem d132_110 : decode (mm_cb 132) 110 = .ok (.invokevirtual 177, 3) := by decide +kernel
theorem d132_113 : decode (mm_cb 132) 113 = .ok (.ifCond .ne 10, 3) := by decide +kernel
theorem d132_116 : decode (mm_cb 132) 116 = .ok (.aload_n 0, 1) := by decide +kernel
theorem d132_117 : decode (mm_cb 132) 117 = .ok (.invokevirtual 138, 3) := by decide +kernel
theorem d132_120 : decode (mm_cb 132) 120 = .ok (.iload 5, 2) := by decide +kernel
theorem d132_122 : decode (mm_cb 132) 122 = .ok (.ireturn, 1) := by decide +kernel
theorem d132_123 : decode (mm_cb 132) 123 = .ok (.aload_n 0, 1) := by decide +kernel
theorem d132_124 : decode (mm_cb 132) 124 = .ok (.dup, 1) := by decide +kernel
theorem d132_125 : decode (mm_cb 132) 125 = .ok (.getfield 173, 3) := by decide +kernel
theorem d132_128 : decode (mm_cb 132) 128 = .ok (.lconst 1, 1) := by decide +kernel
theorem d132_129 : decode (mm_cb 132) 129 = .ok (.ladd, 1) := by decide +kernel
theorem d132_130 : decode (mm_cb 132) 130 = .ok (.putfield 173, 3) := by decide +kernel
theorem d132_133 : decode (mm_cb 132) 133 = .ok (.iinc 5 1, 3) := by decide +kernel
theorem d132_136 : decode (mm_cb 132) 136 = .ok (.goto (-54), 3) := by decide +kernel
theorem d132_139 : decode (mm_cb 132) 139 = .ok (.iconst (-1), 1) := by decide +kernel
theorem d132_140 : decode (mm_cb 132) 140 = .ok (.ireturn, 1) := by decide +kernel
theorem d133_0 : decode (mm_cb 133) 0 = .ok (.aload_n 0, 1) := by decide +kernel
theorem d133_1 : decode (mm_cb 133) 1 = .ok (.getfield 56, 3) := by decide +kernel
theorem d133_4 : decode (mm_cb 133) 4 = .ok (.aload_n 0, 1) := by decide +kernel
theorem d133_5 : decode (mm_cb 133) 5 = .ok (.getfield 147, 3) := by decide +kernel
theorem d133_8 : decode (mm_cb 133) 8 = .ok (.iconst 1, 1) := by decide +kernel
theorem d133_9 : decode (mm_cb 133) 9 = .ok (.isub, 1) := by decide +kernel
theorem d133_10 : decode (mm_cb 133) 10 = .ok (.iaload, 1) := by decide +kernel
theorem d133_11 : decode (mm_cb 133) 11 = .ok (.istore_n 1, 1) := by decide +kernel
theorem d133_12 : decode (mm_cb 133) 12 = .ok (.iconst 0, 1) := by decide +kernel
theorem d133_13 : decode (mm_cb 133) 13 = .ok (.istore_n 2, 1) := by decide +kernel
theorem d133_14 : decode (mm_cb 133) 14 = .ok (.iload_n 2, 1) := by decide +kernel
theorem d133_15 : decode (mm_cb 133) 15 = .ok (.iload_n 1, 1) := by decide +kernel
theorem d133_16 : decode (mm_cb 133) 16 = .ok (.if_icmp .gt 208, 3) := by decide +kernel
theorem d133_19 : decode (mm_cb 133) 19 = .ok (.aload_n 0, 1) := by decide +kernel
theorem d133_20 : decode (mm_cb 133) 20 = .ok (.getfield 44, 3) := by decide +kernel
theorem d133_23 : decode (mm_cb 133) 23 = .ok (.iload_n 2, 1) := by decide +kernel
theorem d133_24 : decode (mm_cb 133) 24 = .ok (.iaload, 1) := by decide +kernel
theorem d133_25 : decode (mm_cb 133) 25 = .ok (.iconst 2, 1) := by decide +kernel
theorem d133_26 : decode (mm_cb 133) 26 = .ok (.if_icmp .ge 7, 3) := by decide +kernel
theorem d133_29 : decode (mm_cb 133) 29 = .ok (.iconst 0, 1) := by decide +kernel
theorem d133_30 : decode (mm_cb 133) 30 = .ok (.goto 14, 3) := by decide +kernel
theorem d133_33 : decode (mm_cb 133) 33 = .ok (.aload_n 0, 1) := by decide +kernel
theorem d133_34 : decode (mm_cb 133) 34 = .ok (.getfield 53, 3) := by decide +kernel
theorem d133_37 : decode (mm_cb 133) 37 = .ok (.aload_n 0, 1) := by decide +kernel
theorem d133_38 : decode (mm_cb 133) 38 = .ok (.getfield 47, 3) := by decide +kernel
theorem d133_41 : decode (mm_cb 133) 41 = .ok (.iload_n 2, 1) := by decide +kernel
theorem d133_42 : decode (mm_cb 133) 42 = .ok (.iaload, 1) := by decide +kernel
theorem d133_43 : decode (mm_cb 133) 43 = .ok (.iaload, 1) := by decide +kernel
theorem d133_44 : decode (mm_cb 133) 44 = .ok (.istore_n 3, 1) := by decide +kernel
theorem d133_45 : decode (mm_cb 133) 45 = .ok (.aload_n 0, 1) := by decide +kernel
theorem d133_46 : decode (mm_cb 133) 46 = .ok (.getfield 44, 3) := by decide +kernel
theorem d133_49 : decode (mm_cb 133) 49 = .ok (.iload_n 2, 1) := by decide +kernel
theorem d133_50 : decode (mm_cb 133) 50 = .ok (.iaload, 1) := by decide +kernel
theorem d133_51 : decode (mm_cb 133) 51 = .ok (.iconst 2, 1) := by decide +kernel
theorem d133_52 : decode (mm_cb 133) 52 = .ok (.if_icmp .ge 7, 3) := by decide +kernel
theorem d133_55 : decode (mm_cb 133) 55 = .ok (.iconst 0, 1) := by decide +kernel
theorem d133_56 : decode (mm_cb 133) 56 = .ok (.goto 14, 3) := by decide +kernel
theorem d133_59 : decode (mm_cb 133) 59 = .ok (.aload_n 0, 1) := by decide +kernel
theorem d133_60 : decode (mm_cb 133) 60 = .ok (.getfield 53, 3) := by decide +kernel
theorem d133_63 : decode (mm_cb 133) 63 = .ok (.aload_n 0, 1) := by decide +kernel
theorem d133_64 : decode (mm_cb 133) 64 = .ok (.getfield 50, 3) := by decide +kernel
theorem d133_67 : decode (mm_cb 133) 67 = .ok (.iload_n 2, 1) := by decide +kernel
theorem d133_68 : decode (mm_cb 133) 68 = .ok (.iaload, 1) := by decide +kernel
theorem d133_69 : decode (mm_cb 133) 69 = .ok (.iaload, 1) := by decide +kernel
theorem d133_70 : decode (mm_cb 133) 70 = .ok (.istore 4, 2) := by decide +kernel
theorem d133_72 : decode (mm_cb 133) 72 = .ok (.aload_n 0, 1) := by decide +kernel
theorem d133_73 : decode (mm_cb 133) 73 = .ok (.getfield 44, 3) := by decide +kernel
theorem d133_76 : decode (mm_cb 133) 76 = .ok (.iload_n 2, 1) := by decide +kernel
theorem d133_77 : decode (mm_cb 133) 77 = .ok (.iaload, 1) := by decide +kernel
theorem d133_78 : decode (mm_cb 133) 78 = .ok (.ifCond .ne 28, 3) := by decide +kernel
theorem d133_81 : decode (mm_cb 133) 81 = .ok (.aload_n 0, 1) := by decide +kernel
theorem d133_82 : decode (mm_cb 133) 82 = .ok (.getfield 53, 3) := by decide +kernel
theorem d133_85 : decode (mm_cb 133) 85 = .ok (.iload_n 2, 1) := by decide +kernel
theorem d133_86 : decode (mm_cb 133) 86 = .ok (.aload_n 0, 1) := by decide +kernel
theorem d133_87 : decode (mm_cb 133) 87 = .ok (.aload_n 0, 1) := by decide +kernel
theorem d133_88 : decode (mm_cb 133) 88 = .ok (.getfield 47, 3) := by decide +kernel
theorem d133_91 : decode (mm_cb 133) 91 = .ok (.iload_n 2, 1) := by decide +kernel
theorem d133_92 : decode (mm_cb 133) 92 = .ok (.iaload, 1) := by decide +kernel
theorem d133_93 : decode (mm_cb 133) 93 = .ok (.aload_n 0, 1) := by decide +kernel
theorem d133_94 : decode (mm_cb 133) 94 = .ok (.getfield 50, 3) := by decide +kernel
theorem d133_97 : decode (mm_cb 133) 97 = .ok (.iload_n 2, 1) := by decide +kernel
theorem d133_98 : decode (mm_cb 133) 98 = .ok (.iaload, 1) := by decide +kernel
theorem d133_99 : decode (mm_cb 133) 99 = .ok (.invokevirtual 162, 3) := by decide +kernel
theorem d133_102 : decode (mm_cb 133) 102 = .ok (.iastore, 1) := by decide +kernel
theorem d133_103 : decode (mm_cb 133) 103 = .ok (.goto 115, 3) := by decide +kernel
theorem d133_106 : decode (mm_cb 133) 106 = .ok (.aload_n 0, 1) := by decide +kernel
theorem d133_107 : decode (mm_cb 133) 107 = .ok (.getfield 44, 3) := by decide +kernel
theorem d133_110 : decode (mm_cb 133) 110 = .ok (.iload_n 2, 1) := by decide +kernel
theorem d133_111 : decode (mm_cb 133) 111 = .ok (.iaload, 1) := by decide +kernel
theorem d133_112 : decode (mm_cb 133) 112 = .ok (.iconst 1, 1) := by decide +kernel
theorem d133_113 : decode (mm_cb 133) 113 = .ok (.if_icmp .ne 28, 3) := by decide +kernel
theorem d133_116 : decode (mm_cb 133) 116 = .ok (.aload_n 0, 1) := by decide +kernel
theorem d133_117 : decode (mm_cb 133) 117 = .ok (.getfield 53, 3) := by decide +kernel
theorem d133_120 : decode (mm_cb 133) 120 = .ok (.iload_n 2, 1) := by decide +kernel
theorem d133_121 : decode (mm_cb 133) 121 = .ok (.aload_n 0, 1) := by decide +kernel
theorem d133_122 : decode (mm_cb 133) 122 = .ok (.aload_n 0, 1) := by decide +kernel
theorem d133_123 : decode (mm_cb 133) 123 = .ok (.getfield 47, 3) := by decide +kernel
theorem d133_126 : decode (mm_cb 133) 126 = .ok (.iload_n 2, 1) := by decide +kernel
theorem d133_127 : decode (mm_cb 133) 127 = .ok (.iaload, 1) := by decide +kernel
theorem d133_128 : decode (mm_cb 133) 128 = .ok (.aload_n 0, 1) := by decide +kernel
theorem d133_129 : decode (mm_cb 133) 129 = .ok (.getfield 50, 3) := by decide +kernel
theorem d133_132 : decode (mm_cb 133) 132 = .ok (.iload_n 2, 1) := by decide +kernel
theorem d133_133 : decode (mm_cb 133) 133 = .ok (.iaload, 1) := by decide +kernel
theorem d133_134 : decode (mm_cb 133) 134 = .ok (.invokevirtual 165, 3) := by decide +kernel
theorem d133_137 : decode (mm_cb 133) 137 = .ok (.iastore, 1) := by decide +kernel
theorem d133_138 : decode (mm_cb 133) 138 = .ok (.goto 80, 3) := by decide +kernel
theorem d133_141 : decode (mm_cb 133) 141 = .ok (.aload_n 0, 1) := by decide +kernel
theorem d133_142 : decode (mm_cb 133) 142 = .ok (.getfield 44, 3) := by decide +kernel
theorem d133_145 : decode (mm_cb 133) 145 = .ok (.iload_n 2, 1) := by decide +kernel
theorem d133_146 : decode (mm_cb 133) 146 = .ok (.iaload, 1) := by decide +kernel
theorem d133_147 : decode (mm_cb 133) 147 = .ok (.iconst 2, 1) := by decide +kernel
theorem d133_148 : decode (mm_cb 133) 148 = .ok (.if_icmp .ne 23, 3) := by decide +kernel
theorem d133_151 : decode (mm_cb 133) 151 = .ok (.aload_n 0, 1) := by decide +kernel
theorem d133_152 : decode (mm_cb 133) 152 = .ok (.getfield 53, 3) := by decide +kernel
theorem d133_155 : decode (mm_cb 133) 155 = .ok (.iload_n 2, 1) := by decide +kernel
theorem d133_156 : decode (mm_cb 133) 156 = .ok (.iload_n 3, 1) := by decide +kernel
theorem d133_157 : decode (mm_cb 133) 157 = .ok (.iconst 1, 1) := by decide +kernel
theorem d133_158 : decode (mm_cb 133) 158 = .ok (.if_icmp .ne 8, 3) := by decide +kernel
theorem d133_161 : decode (mm_cb 133) 161 = .ok (.iload 4, 2) := by decide +kernel
theorem d133_163 : decode (mm_cb 133) 163 = .ok (.goto 4, 3) := by decide +kernel
theorem d133_166 : decode (mm_cb 133) 166 = .ok (.iload_n 3, 1) := by decide +kernel
theorem d133_167 : decode (mm_cb 133) 167 = .ok (.iastore, 1) := by decide +kernel
theorem d133_168 : decode (mm_cb 133) 168 = .ok (.goto 50, 3) := by decide +kernel
theorem d133_171 : decode (mm_cb 133) 171 = .ok (.aload_n 0, 1) := by decide +kernel
theorem d133_172 : decode (mm_cb 133) 172 = .ok (.getfield 44, 3) := by decide +kernel
theorem d133_175 : decode (mm_cb 133) 175 = .ok (.iload_n 2, 1) := by decide +kernel
theorem d133_176 : decode (mm_cb 133) 176 = .ok (.iaload, 1) := by decide +kernel
theorem d133_177 : decode (mm_cb 133) 177 = .ok (.iconst 3, 1) := by decide +kernel
theorem d133_178 : decode (mm_cb 133) 178 = .ok (.if_icmp .ne 22, 3) := by decide +kernel
theorem d133_181 : decode (mm_cb 133) 181 = .ok (.aload_n 0, 1) := by decide +kernel
theorem d133_182 : decode (mm_cb 133) 182 = .ok (.getfield 53, 3) := by decide +kernel
theorem d133_185 : decode (mm_cb 133) 185 = .ok (.iload_n 2, 1) := by decide +kernel
theorem d133_186 : decode (mm_cb 133) 186 = .ok (.iload_n 3, 1) := by decide +kernel
theorem d133_187 : decode (mm_cb 133) 187 = .ok (.ifCond .ne 8, 3) := by decide +kernel
theorem d133_190 : decode (mm_cb 133) 190 = .ok (.iload 4, 2) := by decide +kernel
theorem d133_192 : decode (mm_cb 133) 192 = .ok (.goto 4, 3) := by decide +kernel
theorem d133_195 : decode (mm_cb 133) 195 = .ok (.iload_n 3, 1) := by decide +kernel
theorem d133_196 : decode (mm_cb 133) 196 = .ok (.iastore, 1) := by decide +kernel
theorem d133_197 : decode (mm_cb 133) 197 = .ok (.goto 21, 3) := by decide +kernel
theorem d133_200 : decode (mm_cb 133) 200 = .ok (.aload_n 0, 1) := by decide +kernel
theorem d133_201 : decode (mm_cb 133) 201 = .ok (.getfield 53, 3) := by decide +kernel
theorem d133_204 : decode (mm_cb 133) 204 = .ok (.iload_n 2, 1) := by decide +kernel
theorem d133_205 : decode (mm_cb 133) 205 = .ok (.iload_n 3, 1) := by decide +kernel
theorem d133_206 : decode (mm_cb 133) 206 = .ok (.iconst 2, 1) := by decide +kernel
theorem d133_207 : decode (mm_cb 133) 207 = .ok (.if_icmp .ge 9, 3) := by decide +kernel
theorem d133_210 : decode (mm_cb 133) 210 = .ok (.iconst 1, 1) := by decide +kernel
theorem d133_211 : decode (mm_cb 133) 211 = .ok (.iload_n 3, 1) := by decide +kernel
theorem d133_212 : decode (mm_cb 133) 212 = .ok (.isub, 1) := by decide +kernel
theorem d133_213 : decode (mm_cb 133) 213 = .ok (.goto 4, 3) := by decide +kernel
theorem d133_216 : decode (mm_cb 133) 216 = .ok (.iload_n 3, 1) := by decide +kernel
theorem d133_217 : decode (mm_cb 133) 217 = .ok (.iastore, 1) := by decide +kernel
theorem d133_218 : decode (mm_cb 133) 218 = .ok (.iinc 2 1, 3) := by decide +kernel
theorem d133_221 : decode (mm_cb 133) 221 = .ok (.goto (-207), 3) := by decide +kernel
theorem d133_224 : decode (mm_cb 133) 224 = .ok (.aload_n 0, 1) := by decide +kernel
theorem d133_225 : decode (mm_cb 133) 225 = .ok (.getfield 53, 3) := by decide +kernel
theorem d133_228 : decode (mm_cb 133) 228 = .ok (.iload_n 1, 1) := by decide +kernel
theorem d133_229 : decode (mm_cb 133) 229 = .ok (.iaload, 1) := by decide +kernel
theorem d133_230 : decode (mm_cb 133) 230 = .ok (.ireturn, 1) := by decide +kernel
theorem d134_0 : decode (mm_cb 134) 0 = .ok (.aload_n 0, 1) := by decide +kernel
theorem d134_1 : decode (mm_cb 134) 1 = .ok (.iload_n 1, 1) := by decide +kernel
theorem d134_2 : decode (mm_cb 134) 2 = .ok (.invokevirtual 159, 3) := by decide +kernel
theorem d134_5 : decode (mm_cb 134) 5 = .ok (.istore_n 3, 1) := by decide +kernel
theorem d134_6 : decode (mm_cb 134) 6 = .ok (.iload_n 3, 1) := by decide +kernel
theorem d134_7 : decode (mm_cb 134) 7 = .ok (.iconst 1, 1) := by decide +kernel
theorem d134_8 : decode (mm_cb 134) 8 = .ok (.if_icmp .eq 5, 3) := by decide +kernel
theorem d134_11 : decode (mm_cb 134) 11 = .ok (.iload_n 3, 1) := by decide +kernel
theorem d134_12 : decode (mm_cb 134) 12 = .ok (.ireturn, 1) := by decide +kernel
theorem d134_13 : decode (mm_cb 134) 13 = .ok (.aload_n 0, 1) := by decide +kernel
theorem d134_14 : decode (mm_cb 134) 14 = .ok (.getfield 26, 3) := by decide +kernel
theorem d134_17 : decode (mm_cb 134) 17 = .ok (.iload_n 1, 1) := by decide +kernel
theorem d134_18 : decode (mm_cb 134) 18 = .ok (.iaload, 1) := by decide +kernel
theorem d134_19 : decode (mm_cb 134) 19 = .ok (.bipush (-2), 2) := by decide +kernel
theorem d134_21 : decode (mm_cb 134) 21 = .ok (.if_icmp .ne 9, 3) := by decide +kernel
theorem d134_24 : decode (mm_cb 134) 24 = .ok (.iconst 2, 1) := by decide +kernel
theorem d134_25 : decode (mm_cb 134) 25 = .ok (.iload_n 1, 1) := by decide +kernel
theorem d134_26 : decode (mm_cb 134) 26 = .ok (.iadd, 1) := by decide +kernel
theorem d134_27 : decode (mm_cb 134) 27 = .ok (.goto 18, 3) := by decide +kernel
theorem d134_30 : decode (mm_cb 134) 30 = .ok (.aload_n 0, 1) := by decide +kernel
theorem d134_31 : decode (mm_cb 134) 31 = .ok (.getfield 26, 3) := by decide +kernel
theorem d134_34 : decode (mm_cb 134) 34 = .ok (.iload_n 1, 1) := by decide +kernel
theorem d134_35 : decode (mm_cb 134) 35 = .ok (.iaload, 1) := by decide +kernel
theorem d134_36 : decode (mm_cb 134) 36 = .ok (.iload_n 2, 1) := by decide +kernel
theorem d134_37 : decode (mm_cb 134) 37 = .ok (.if_icmp .ne 7, 3) := by decide +kernel
theorem d134_40 : decode (mm_cb 134) 40 = .ok (.iconst 1, 1) := by decide +kernel
theorem d134_41 : decode (mm_cb 134) 41 = .ok (.goto 4, 3) := by decide +kernel
theorem d134_44 : decode (mm_cb 134) 44 = .ok (.iconst 0, 1) := by decide +kernel
theorem d134_45 : decode (mm_cb 134) 45 = .ok (.ireturn, 1) := by decide +kernel
theorem d135_0 : decode (mm_cb 135) 0 = .ok (.iconst 0, 1) := by decide +kernel
theorem d135_1 : decode (mm_cb 135) 1 = .ok (.istore_n 2, 1) := by decide +kernel
theorem d135_2 : decode (mm_cb 135) 2 = .ok (.iload_n 1, 1) := by decide +kernel
theorem d135_3 : decode (mm_cb 135) 3 = .ok (.invokestatic 124, 3) := by decide +kernel
theorem d135_6 : decode (mm_cb 135) 6 = .ok (.istore_n 3, 1) := by decide +kernel
theorem d135_7 : decode (mm_cb 135) 7 = .ok (.iconst 0, 1) := by decide +kernel
theorem d135_8 : decode (mm_cb 135) 8 = .ok (.istore 4, 2) := by decide +kernel
theorem d135_10 : decode (mm_cb 135) 10 = .ok (.iload 4, 2) := by decide +kernel
theorem d135_12 : decode (mm_cb 135) 12 = .ok (.iload_n 3, 1) := by decide +kernel
theorem d135_13 : decode (mm_cb 135) 13 = .ok (.if_icmp .ge 68, 3) := by decide +kernel
theorem d135_16 : decode (mm_cb 135) 16 = .ok (.aload_n 0, 1) := by decide +kernel
theorem d135_17 : decode (mm_cb 135) 17 = .ok (.getfield 26, 3) := by decide +kernel
theorem d135_20 : decode (mm_cb 135) 20 = .ok (.iload_n 2, 1) := by decide +kernel
theorem d135_21 : decode (mm_cb 135) 21 = .ok (.iaload, 1) := by decide +kernel
theorem d135_22 : decode (mm_cb 135) 22 = .ok (.bipush (-2), 2) := by decide +kernel
theorem d135_24 : decode (mm_cb 135) 24 = .ok (.if_icmp .ne 7, 3) := by decide +kernel
theorem d135_27 : decode (mm_cb 135) 27 = .ok (.iconst 2, 1) := by decide +kernel
theorem d135_28 : decode (mm_cb 135) 28 = .ok (.iload_n 2, 1) := by decide +kernel
theorem d135_29 : decode (mm_cb 135) 29 = .ok (.iadd, 1) := by decide +kernel
theorem d135_30 : decode (mm_cb 135) 30 = .ok (.ireturn, 1) := by decide +kernel
theorem d135_31 : decode (mm_cb 135) 31 = .ok (.iload_n 1, 1) := by decide +kernel
theorem d135_32 : decode (mm_cb 135) 32 = .ok (.iload 4, 2) := by decide +kernel
theorem d135_34 : decode (mm_cb 135) 34 = .ok (.invokestatic 156, 3) := by decide +kernel
theorem d135_37 : decode (mm_cb 135) 37 = .ok (.istore 5, 2) := by decide +kernel
theorem d135_39 : decode (mm_cb 135) 39 = .ok (.iload 5, 2) := by decide +kernel
theorem d135_41 : decode (mm_cb 135) 41 = .ok (.aload_n 0, 1) := by decide +kernel
theorem d135_42 : decode (mm_cb 135) 42 = .ok (.getfield 13, 3) := by decide +kernel
theorem d135_45 : decode (mm_cb 135) 45 = .ok (.iconst 4, 1) := by decide +kernel
theorem d135_46 : decode (mm_cb 135) 46 = .ok (.aload_n 0, 1) := by decide +kernel
theorem d135_47 : decode (mm_cb 135) 47 = .ok (.getfield 29, 3) := by decide +kernel
theorem d135_50 : decode (mm_cb 135) 50 = .ok (.iload_n 2, 1) := by decide +kernel
theorem d135_51 : decode (mm_cb 135) 51 = .ok (.iaload, 1) := by decide +kernel
theorem d135_52 : decode (mm_cb 135) 52 = .ok (.imul, 1) := by decide +kernel
theorem d135_53 : decode (mm_cb 135) 53 = .ok (.aload_n 0, 1) := by decide +kernel
theorem d135_54 : decode (mm_cb 135) 54 = .ok (.getfield 26, 3) := by decide +kernel
theorem d135_57 : decode (mm_cb 135) 57 = .ok (.iload_n 2, 1) := by decide +kernel
theorem d135_58 : decode (mm_cb 135) 58 = .ok (.iaload, 1) := by decide +kernel
theorem d135_59 : decode (mm_cb 135) 59 = .ok (.iadd, 1) := by decide +kernel
theorem d135_60 : decode (mm_cb 135) 60 = .ok (.iaload, 1) := by decide +kernel
theorem d135_61 : decode (mm_cb 135) 61 = .ok (.if_icmp .lt 5, 3) := by decide +kernel
theorem d135_64 : decode (mm_cb 135) 64 = .ok (.iconst 0, 1) := by decide +kernel
theorem d135_65 : decode (mm_cb 135) 65 = .ok (.ireturn, 1) := by decide +kernel
theorem d135_66 : decode (mm_cb 135) 66 = .ok (.iconst 4, 1) := by decide +kernel
theorem d135_67 : decode (mm_cb 135) 67 = .ok (.iload_n 2, 1) := by decide +kernel
theorem d135_68 : decode (mm_cb 135) 68 = .ok (.imul, 1) := by decide +kernel
theorem d135_69 : decode (mm_cb 135) 69 = .ok (.iload 5, 2) := by decide +kernel
theorem d135_71 : decode (mm_cb 135) 71 = .ok (.iadd, 1) := by decide +kernel
theorem d135_72 : decode (mm_cb 135) 72 = .ok (.iconst 1, 1) := by decide +kernel
theorem d135_73 : decode (mm_cb 135) 73 = .ok (.iadd, 1) := by decide +kernel
theorem d135_74 : decode (mm_cb 135) 74 = .ok (.istore_n 2, 1) := by decide +kernel
theorem d135_75 : decode (mm_cb 135) 75 = .ok (.iinc 4 1, 3) := by decide +kernel
theorem d135_78 : decode (mm_cb 135) 78 = .ok (.goto (-68), 3) := by decide +kernel
theorem d135_81 : decode (mm_cb 135) 81 = .ok (.iconst 1, 1) := by decide +kernel
theorem d135_82 : decode (mm_cb 135) 82 = .ok (.ireturn, 1) := by decide +kernel
theorem d136_0 : decode (mm_cb 136) 0 = .ok (.iload_n 0, 1) := by decide +kernel
theorem d136_1 : decode (mm_cb 136) 1 = .ok (.istore_n 2, 1) := by decide +kernel
theorem d136_2 : decode (mm_cb 136) 2 = .ok (.iload_n 0, 1) := by decide +kernel
theorem d136_3 : decode (mm_cb 136) 3 = .ok (.invokestatic 124, 3) := by decide +kernel
theorem d136_6 : decode (mm_cb 136) 6 = .ok (.istore_n 3, 1) := by decide +kernel
theorem d136_7 : decode (mm_cb 136) 7 = .ok (.iload_n 3, 1) := by decide +kernel
theorem d136_8 : decode (mm_cb 136) 8 = .ok (.iload_n 1, 1) := by decide +kernel
theorem d136_9 : decode (mm_cb 136) 9 = .ok (.iconst 1, 1) := by decide +kernel
theorem d136_10 : decode (mm_cb 136) 10 = .ok (.iadd, 1) := by decide +kernel
theorem d136_11 : decode (mm_cb 136) 11 = .ok (.if_icmp .le 15, 3) := by decide +kernel
theorem d136_14 : decode (mm_cb 136) 14 = .ok (.iload_n 2, 1) := by decide +kernel
theorem d136_15 : decode (mm_cb 136) 15 = .ok (.iconst 1, 1) := by decide +kernel
theorem d136_16 : decode (mm_cb 136) 16 = .ok (.isub, 1) := by decide +kernel
theorem d136_17 : decode (mm_cb 136) 17 = .ok (.iconst 4, 1) := by decide +kernel
theorem d136_18 : decode (mm_cb 136) 18 = .ok (.idiv, 1) := by decide +kernel
theorem d136_19 : decode (mm_cb 136) 19 = .ok (.istore_n 2, 1) := by decide +kernel
theorem d136_20 : decode (mm_cb 136) 20 = .ok (.iinc 3 (-1), 3) := by decide +kernel
theorem d136_23 : decode (mm_cb 136) 23 = .ok (.goto (-16), 3) := by decide +kernel
theorem d136_26 : decode (mm_cb 136) 26 = .ok (.iload_n 2, 1) := by decide +kernel
theorem d136_27 : decode (mm_cb 136) 27 = .ok (.iconst 1, 1) := by decide +kernel
theorem d136_28 : decode (mm_cb 136) 28 = .ok (.isub, 1) := by decide +kernel
theorem d136_29 : decode (mm_cb 136) 29 = .ok (.iconst 4, 1) := by decide +kernel
theorem d136_30 : decode (mm_cb 136) 30 = .ok (.irem, 1) := by decide +kernel
theorem d136_31 : decode (mm_cb 136) 31 = .ok (.ireturn, 1) := by decide +kernel
theorem d137_0 : decode (mm_cb 137) 0 = .ok (.aload_n 0, 1) := by decide +kernel
theorem d137_1 : decode (mm_cb 137) 1 = .ok (.iload_n 1, 1) := by decide +kernel
theorem d137_2 : decode (mm_cb 137) 2 = .ok (.invokevirtual 159, 3) := by decide +kernel
theorem d137_5 : decode (mm_cb 137) 5 = .ok (.istore_n 3, 1) := by decide +kernel
theorem d137_6 : decode (mm_cb 137) 6 = .ok (.iload_n 3, 1) := by decide +kernel
theorem d137_7 : decode (mm_cb 137) 7 = .ok (.iconst 1, 1) := by decide +kernel
theorem d137_8 : decode (mm_cb 137) 8 = .ok (.if_icmp .le 5, 3) := by decide +kernel
theorem d137_11 : decode (mm_cb 137) 11 = .ok (.iload_n 3, 1) := by decide +kernel
theorem d137_12 : decode (mm_cb 137) 12 = .ok (.ireturn, 1) := by decide +kernel
theorem d137_13 : decode (mm_cb 137) 13 = .ok (.aload_n 0, 1) := by decide +kernel
theorem d137_14 : decode (mm_cb 137) 14 = .ok (.iload_n 2, 1) := by decide +kernel
theorem d137_15 : decode (mm_cb 137) 15 = .ok (.invokevirtual 159, 3) := by decide +kernel
theorem d137_18 : decode (mm_cb 137) 18 = .ok (.istore 4, 2) := by decide +kernel
theorem d137_20 : decode (mm_cb 137) 20 = .ok (.iload 4, 2) := by decide +kernel
theorem d137_22 : decode (mm_cb 137) 22 = .ok (.iconst 1, 1) := by decide +kernel
theorem d137_23 : decode (mm_cb 137) 23 = .ok (.if_icmp .le 6, 3) := by decide +kernel
theorem d137_26 : decode (mm_cb 137) 26 = .ok (.iload 4, 2) := by decide +kernel
theorem d137_28 : decode (mm_cb 137) 28 = .ok (.ireturn, 1) := by decide +kernel
theorem d137_29 : decode (mm_cb 137) 29 = .ok (.iload_n 3, 1) := by decide +kernel
theorem d137_30 : decode (mm_cb 137) 30 = .ok (.ifCond .eq 8, 3) := by decide +kernel
theorem d137_33 : decode (mm_cb 137) 33 = .ok (.iload 4, 2) := by decide +kernel
theorem d137_35 : decode (mm_cb 137) 35 = .ok (.ifCond .ne 15, 3) := by decide +kernel
theorem d137_38 : decode (mm_cb 137) 38 = .ok (.iload_n 3, 1) := by decide +kernel
theorem d137_39 : decode (mm_cb 137) 39 = .ok (.iload 4, 2) := by decide +kernel
theorem d137_41 : decode (mm_cb 137) 41 = .ok (.if_icmp .ne 7, 3) := by decide +kernel
theorem d137_44 : decode (mm_cb 137) 44 = .ok (.iconst 1, 1) := by decide +kernel
theorem d137_45 : decode (mm_cb 137) 45 = .ok (.goto 4, 3) := by decide +kernel
theorem d137_48 : decode (mm_cb 137) 48 = .ok (.iconst 0, 1) := by decide +kernel
theorem d137_49 : decode (mm_cb 137) 49 = .ok (.ireturn, 1) := by decide +kernel
theorem d137_50 : decode (mm_cb 137) 50 = .ok (.aload_n 0, 1) := by decide +kernel
theorem d137_51 : decode (mm_cb 137) 51 = .ok (.iconst 0, 1) := by decide +kernel
theorem d137_52 : decode (mm_cb 137) 52 = .ok (.putfield 114, 3) := by decide +kernel
theorem d137_55 : decode (mm_cb 137) 55 = .ok (.aload_n 0, 1) := by decide +kernel
theorem d137_56 : decode (mm_cb 137) 56 = .ok (.iload_n 1, 1) := by decide +kernel
theorem d137_57 : decode (mm_cb 137) 57 = .ok (.iload_n 2, 1) := by decide +kernel
theorem d137_58 : decode (mm_cb 137) 58 = .ok (.lconst 0, 1) := by decide +kernel
theorem d137_59 : decode (mm_cb 137) 59 = .ok (.invokevirtual 117, 3) := by decide +kernel
theorem d137_62 : decode (mm_cb 137) 62 = .ok (.aload_n 0, 1) := by decide +kernel
theorem d137_63 : decode (mm_cb 137) 63 = .ok (.getfield 114, 3) := by decide +kernel
theorem d137_66 : decode (mm_cb 137) 66 = .ok (.ifCond .le 194, 3) := by decide +kernel
theorem d137_69 : decode (mm_cb 137) 69 = .ok (.aload_n 0, 1) := by decide +kernel
theorem d137_70 : decode (mm_cb 137) 70 = .ok (.dup, 1) := by decide +kernel
theorem d137_71 : decode (mm_cb 137) 71 = .ok (.getfield 114, 3) := by decide +kernel
theorem d137_74 : decode (mm_cb 137) 74 = .ok (.iconst 1, 1) := by decide +kernel
theorem d137_75 : decode (mm_cb 137) 75 = .ok (.isub, 1) := by decide +kernel
theorem d137_76 : decode (mm_cb 137) 76 = .ok (.putfield 114, 3) := by decide +kernel
theorem d137_79 : decode (mm_cb 137) 79 = .ok (.aload_n 0, 1) := by decide +kernel
theorem d137_80 : decode (mm_cb 137) 80 = .ok (.getfield 35, 3) := by decide +kernel
theorem d137_83 : decode (mm_cb 137) 83 = .ok (.aload_n 0, 1) := by decide +kernel
theorem d137_84 : decode (mm_cb 137) 84 = .ok (.getfield 114, 3) := by decide +kernel
theorem d137_87 : decode (mm_cb 137) 87 = .ok (.iaload, 1) := by decide +kernel
theorem d137_88 : decode (mm_cb 137) 88 = .ok (.istore 5, 2) := by decide +kernel
theorem d137_90 : decode (mm_cb 137) 90 = .ok (.aload_n 0, 1) := by decide +kernel
theorem d137_91 : decode (mm_cb 137) 91 = .ok (.getfield 38, 3) := by decide +kernel
theorem d137_94 : decode (mm_cb 137) 94 = .ok (.aload_n 0, 1) := by decide +kernel
theorem d137_95 : decode (mm_cb 137) 95 = .ok (.getfield 114, 3) := by decide +kernel
theorem d137_98 : decode (mm_cb 137) 98 = .ok (.iaload, 1) := by decide +kernel
theorem d137_99 : decode (mm_cb 137) 99 = .ok (.istore 6, 2) := by decide +kernel
theorem d137_101 : decode (mm_cb 137) 101 = .ok (.aload_n 0, 1) := by decide +kernel
theorem d137_102 : decode (mm_cb 137) 102 = .ok (.getfield 26, 3) := by decide +kernel
theorem d137_105 : decode (mm_cb 137) 105 = .ok (.iload 5, 2) := by decide +kernel
theorem d137_107 : decode (mm_cb 137) 107 = .ok (.iaload, 1) := by decide +kernel
theorem d137_108 : decode (mm_cb 137) 108 = .ok (.bipush (-2), 2) := by decide +kernel
theorem d137_110 : decode (mm_cb 137) 110 = .ok (.if_icmp .eq 15, 3) := by decide +kernel
theorem d137_113 : decode (mm_cb 137) 113 = .ok (.aload_n 0, 1) := by decide +kernel
theorem d137_114 : decode (mm_cb 137) 114 = .ok (.getfield 26, 3) := by decide +kernel
theorem d137_117 : decode (mm_cb 137) 117 = .ok (.iload 6, 2) := by decide +kernel
theorem d137_119 : decode (mm_cb 137) 119 = .ok (.iaload, 1) := by decide +kernel
theorem d137_120 : decode (mm_cb 137) 120 = .ok (.bipush (-2), 2) := by decide +kernel
theorem d137_122 : decode (mm_cb 137) 122 = .ok (.if_icmp .ne 25, 3) := by decide +kernel
theorem d137_125 : decode (mm_cb 137) 125 = .ok (.iconst 2, 1) := by decide +kernel
theorem d137_126 : decode (mm_cb 137) 126 = .ok (.aload_n 0, 1) := by decide +kernel
theorem d137_127 : decode (mm_cb 137) 127 = .ok (.getfield 26, 3) := by decide +kernel
theorem d137_130 : decode (mm_cb 137) 130 = .ok (.iload 5, 2) := by decide +kernel
theorem d137_132 : decode (mm_cb 137) 132 = .ok (.iaload, 1) := by decide +kernel
theorem d137_133 : decode (mm_cb 137) 133 = .ok (.bipush (-2), 2) := by decide +kernel
theorem d137_135 : decode (mm_cb 137) 135 = .ok (.if_icmp .ne 8, 3) := by decide +kernel
theorem d137_138 : decode (mm_cb 137) 138 = .ok (.iload 5, 2) := by decide +kernel
theorem d137_140 : decode (mm_cb 137) 140 = .ok (.goto 5, 3) := by decide +kernel
theorem d137_143 : decode (mm_cb 137) 143 = .ok (.iload 6, 2) := by decide +kernel
theorem d137_145 : decode (mm_cb 137) 145 = .ok (.iadd, 1) := by decide +kernel
theorem d137_146 : decode (mm_cb 137) 146 = .ok (.ireturn, 1) := by decide +kernel
theorem d137_147 : decode (mm_cb 137) 147 = .ok (.aload_n 0, 1) := by decide +kernel
theorem d137_148 : decode (mm_cb 137) 148 = .ok (.getfield 13, 3) := by decide +kernel
theorem d137_151 : decode (mm_cb 137) 151 = .ok (.iconst 4, 1) := by decide +kernel
theorem d137_152 : decode (mm_cb 137) 152 = .ok (.aload_n 0, 1) := by decide +kernel
theorem d137_153 : decode (mm_cb 137) 153 = .ok (.getfield 29, 3) := by decide +kernel
theorem d137_156 : decode (mm_cb 137) 156 = .ok (.iload 5, 2) := by decide +kernel
theorem d137_158 : decode (mm_cb 137) 158 = .ok (.iaload, 1) := by decide +kernel
theorem d137_159 : decode (mm_cb 137) 159 = .ok (.imul, 1) := by decide +kernel
theorem d137_160 : decode (mm_cb 137) 160 = .ok (.aload_n 0, 1) := by decide +kernel
theorem d137_161 : decode (mm_cb 137) 161 = .ok (.getfield 26, 3) := by decide +kernel
theorem d137_164 : decode (mm_cb 137) 164 = .ok (.iload 5, 2) := by decide +kernel
theorem d137_166 : decode (mm_cb 137) 166 = .ok (.iaload, 1) := by decide +kernel
theorem d137_167 : decode (mm_cb 137) 167 = .ok (.iadd, 1) := by decide +kernel
theorem d137_168 : decode (mm_cb 137) 168 = .ok (.iaload, 1) := by decide +kernel
theorem d137_169 : decode (mm_cb 137) 169 = .ok (.istore 7, 2) := by decide +kernel
theorem d137_171 : decode (mm_cb 137) 171 = .ok (.aload_n 0, 1) := by decide +kernel
theorem d137_172 : decode (mm_cb 137) 172 = .ok (.getfield 26, 3) := by decide +kernel
theorem d137_175 : decode (mm_cb 137) 175 = .ok (.iload 5, 2) := by decide +kernel
theorem d137_177 : decode (mm_cb 137) 177 = .ok (.iaload, 1) := by decide +kernel
theorem d137_178 : decode (mm_cb 137) 178 = .ok (.aload_n 0, 1) := by decide +kernel
theorem d137_179 : decode (mm_cb 137) 179 = .ok (.getfield 26, 3) := by decide +kernel
theorem d137_182 : decode (mm_cb 137) 182 = .ok (.iload 6, 2) := by decide +kernel
theorem d137_184 : decode (mm_cb 137) 184 = .ok (.iaload, 1) := by decide +kernel
theorem d137_185 : decode (mm_cb 137) 185 = .ok (.if_icmp .ne 30, 3) := by decide +kernel
theorem d137_188 : decode (mm_cb 137) 188 = .ok (.iload 7, 2) := by decide +kernel
theorem d137_190 : decode (mm_cb 137) 190 = .ok (.aload_n 0, 1) := by decide +kernel
theorem d137_191 : decode (mm_cb 137) 191 = .ok (.getfield 13, 3) := by decide +kernel
theorem d137_194 : decode (mm_cb 137) 194 = .ok (.iconst 4, 1) := by decide +kernel
theorem d137_195 : decode (mm_cb 137) 195 = .ok (.aload_n 0, 1) := by decide +kernel
theorem d137_196 : decode (mm_cb 137) 196 = .ok (.getfield 29, 3) := by decide +kernel
theorem d137_199 : decode (mm_cb 137) 199 = .ok (.iload 6, 2) := by decide +kernel
theorem d137_201 : decode (mm_cb 137) 201 = .ok (.iaload, 1) := by decide +kernel
theorem d137_202 : decode (mm_cb 137) 202 = .ok (.imul, 1) := by decide +kernel
theorem d137_203 : decode (mm_cb 137) 203 = .ok (.aload_n 0, 1) := by decide +kernel
theorem d137_204 : decode (mm_cb 137) 204 = .ok (.getfield 26, 3) := by decide +kernel
theorem d137_207 : decode (mm_cb 137) 207 = .ok (.iload 6, 2) := by decide +kernel
theorem d137_209 : decode (mm_cb 137) 209 = .ok (.iaload, 1) := by decide +kernel
theorem d137_210 : decode (mm_cb 137) 210 = .ok (.iadd, 1) := by decide +kernel
theorem d137_211 : decode (mm_cb 137) 211 = .ok (.iaload, 1) := by decide +kernel
theorem d137_212 : decode (mm_cb 137) 212 = .ok (.if_icmp .eq 5, 3) := by decide +kernel
theorem d137_215 : decode (mm_cb 137) 215 = .ok (.iconst 0, 1) := by decide +kernel
theorem d137_216 : decode (mm_cb 137) 216 = .ok (.ireturn, 1) := by decide +kernel
theorem d137_217 : decode (mm_cb 137) 217 = .ok (.iload 7, 2) := by decide +kernel
theorem d137_219 : decode (mm_cb 137) 219 = .ok (.iconst 1, 1) := by decide +kernel
theorem d137_220 : decode (mm_cb 137) 220 = .ok (.isub, 1) := by decide +kernel
theorem d137_221 : decode (mm_cb 137) 221 = .ok (.istore 8, 2) := by decide +kernel
theorem d137_223 : decode (mm_cb 137) 223 = .ok (.iload 8, 2) := by decide +kernel
theorem d137_225 : decode (mm_cb 137) 225 = .ok (.ifCond .lt 32, 3) := by decide +kernel
theorem d137_228 : decode (mm_cb 137) 228 = .ok (.aload_n 0, 1) := by decide +kernel
theorem d137_229 : decode (mm_cb 137) 229 = .ok (.iconst 4, 1) := by decide +kernel
theorem d137_230 : decode (mm_cb 137) 230 = .ok (.iload 5, 2) := by decide +kernel
theorem d137_232 : decode (mm_cb 137) 232 = .ok (.imul, 1) := by decide +kernel
theorem d137_233 : decode (mm_cb 137) 233 = .ok (.iload 8, 2) := by decide +kernel
theorem d137_235 : decode (mm_cb 137) 235 = .ok (.iadd, 1) := by decide +kernel
theorem d137_236 : decode (mm_cb 137) 236 = .ok (.iconst 1, 1) := by decide +kernel
theorem d137_237 : decode (mm_cb 137) 237 = .ok (.iadd, 1) := by decide +kernel
theorem d137_238 : decode (mm_cb 137) 238 = .ok (.iconst 4, 1) := by decide +kernel
theorem d137_239 : decode (mm_cb 137) 239 = .ok (.iload 6, 2) := by decide +kernel
theorem d137_241 : decode (mm_cb 137) 241 = .ok (.imul, 1) := by decide +kernel
theorem d137_242 : decode (mm_cb 137) 242 = .ok (.iload 8, 2) := by decide +kernel
theorem d137_244 : decode (mm_cb 137) 244 = .ok (.iadd, 1) := by decide +kernel
theorem d137_245 : decode (mm_cb 137) 245 = .ok (.iconst 1, 1) := by decide +kernel
theorem d137_246 : decode (mm_cb 137) 246 = .ok (.iadd, 1) := by decide +kernel
theorem d137_247 : decode (mm_cb 137) 247 = .ok (.lconst 0, 1) := by decide +kernel
theorem d137_248 : decode (mm_cb 137) 248 = .ok (.invokevirtual 117, 3) := by decide +kernel
theorem d137_251 : decode (mm_cb 137) 251 = .ok (.iinc 8 (-1), 3) := by decide +kernel
theorem d137_254 : decode (mm_cb 137) 254 = .ok (.goto (-31), 3) := by decide +kernel
theorem d137_257 : decode (mm_cb 137) 257 = .ok (.goto (-195), 3) := by decide +kernel
theorem d137_260 : decode (mm_cb 137) 260 = .ok (.iconst 1, 1) := by decide +kernel
theorem d137_261 : decode (mm_cb 137) 261 = .ok (.ireturn, 1) := by decide +kernel
theorem d138_0 : decode (mm_cb 138) 0 = .ok (.aload_n 0, 1) := by decide +kernel
theorem d138_1 : decode (mm_cb 138) 1 = .ok (.iload_n 1, 1) := by decide +kernel
theorem d138_2 : decode (mm_cb 138) 2 = .ok (.iload_n 2, 1) := by decide +kernel
theorem d138_3 : decode (mm_cb 138) 3 = .ok (.invokestatic 101, 3) := by decide +kernel
theorem d138_6 : decode (mm_cb 138) 6 = .ok (.putfield 65, 3) := by decide +kernel
theorem d138_9 : decode (mm_cb 138) 9 = .ok (.aload_n 0, 1) := by decide +kernel
theorem d138_10 : decode (mm_cb 138) 10 = .ok (.getfield 65, 3) := by decide +kernel
theorem d138_13 : decode (mm_cb 138) 13 = .ok (.ifCond .ne 15, 3) := by decide +kernel
theorem d138_16 : decode (mm_cb 138) 16 = .ok (.aload_n 0, 1) := by decide +kernel
theorem d138_17 : decode (mm_cb 138) 17 = .ok (.getfield 147, 3) := by decide +kernel
theorem d138_20 : decode (mm_cb 138) 20 = .ok (.ifCond .ne 8, 3) := by decide +kernel
theorem d138_23 : decode (mm_cb 138) 23 = .ok (.aload_n 0, 1) := by decide +kernel
theorem d138_24 : decode (mm_cb 138) 24 = .ok (.iconst 3, 1) := by decide +kernel
theorem d138_25 : decode (mm_cb 138) 25 = .ok (.putfield 65, 3) := by decide +kernel
theorem d138_28 : decode (mm_cb 138) 28 = .ok (.aload_n 0, 1) := by decide +kernel
theorem d138_29 : decode (mm_cb 138) 29 = .ok (.getfield 65, 3) := by decide +kernel
theorem d138_32 : decode (mm_cb 138) 32 = .ok (.ifCond .le 5, 3) := by decide +kernel
theorem d138_35 : decode (mm_cb 138) 35 = .ok (.iconst 0, 1) := by decide +kernel
theorem d138_36 : decode (mm_cb 138) 36 = .ok (.ireturn, 1) := by decide +kernel
theorem d138_37 : decode (mm_cb 138) 37 = .ok (.aload_n 0, 1) := by decide +kernel
theorem d138_38 : decode (mm_cb 138) 38 = .ok (.invokevirtual 105, 3) := by decide +kernel
theorem d138_41 : decode (mm_cb 138) 41 = .ok (.aload_n 0, 1) := by decide +kernel
theorem d138_42 : decode (mm_cb 138) 42 = .ok (.invokevirtual 121, 3) := by decide +kernel
theorem d138_45 : decode (mm_cb 138) 45 = .ok (.aload_n 0, 1) := by decide +kernel
theorem d138_46 : decode (mm_cb 138) 46 = .ok (.getfield 26, 3) := by decide +kernel
theorem d138_49 : decode (mm_cb 138) 49 = .ok (.iconst 0, 1) := by decide +kernel
theorem d138_50 : decode (mm_cb 138) 50 = .ok (.bipush (-2), 2) := by decide +kernel
theorem d138_52 : decode (mm_cb 138) 52 = .ok (.iastore, 1) := by decide +kernel
theorem d138_53 : decode (mm_cb 138) 53 = .ok (.aload_n 0, 1) := by decide +kernel
theorem d138_54 : decode (mm_cb 138) 54 = .ok (.getfield 29, 3) := by decide +kernel
theorem d138_57 : decode (mm_cb 138) 57 = .ok (.iconst 0, 1) := by decide +kernel
theorem d138_58 : decode (mm_cb 138) 58 = .ok (.iload_n 1, 1) := by decide +kernel
theorem d138_59 : decode (mm_cb 138) 59 = .ok (.iastore, 1) := by decide +kernel
theorem d138_60 : decode (mm_cb 138) 60 = .ok (.aload_n 0, 1) := by decide +kernel
theorem d138_61 : decode (mm_cb 138) 61 = .ok (.iload_n 2, 1) := by decide +kernel
theorem d138_62 : decode (mm_cb 138) 62 = .ok (.putfield 181, 3) := by decide +kernel
theorem d138_65 : decode (mm_cb 138) 65 = .ok (.aload_n 0, 1) := by decide +kernel
theorem d138_66 : decode (mm_cb 138) 66 = .ok (.iconst 0, 1) := by decide +kernel
theorem d138_67 : decode (mm_cb 138) 67 = .ok (.putfield 184, 3) := by decide +kernel
theorem d138_70 : decode (mm_cb 138) 70 = .ok (.aload_n 0, 1) := by decide +kernel
theorem d138_71 : decode (mm_cb 138) 71 = .ok (.iconst 0, 1) := by decide +kernel
theorem d138_72 : decode (mm_cb 138) 72 = .ok (.putfield 170, 3) := by decide +kernel
theorem d138_75 : decode (mm_cb 138) 75 = .ok (.aload_n 0, 1) := by decide +kernel
theorem d138_76 : decode (mm_cb 138) 76 = .ok (.lconst 0, 1) := by decide +kernel
theorem d138_77 : decode (mm_cb 138) 77 = .ok (.putfield 173, 3) := by decide +kernel
theorem d138_80 : decode (mm_cb 138) 80 = .ok (.iconst 0, 1) := by decide +kernel
theorem d138_81 : decode (mm_cb 138) 81 = .ok (.istore_n 3, 1) := by decide +kernel
theorem d138_82 : decode (mm_cb 138) 82 = .ok (.iload_n 3, 1) := by decide +kernel
theorem d138_83 : decode (mm_cb 138) 83 = .ok (.ifCond .ne 28, 3) := by decide +kernel
theorem d138_86 : decode (mm_cb 138) 86 = .ok (.aload_n 0, 1) := by decide +kernel
theorem d138_87 : decode (mm_cb 138) 87 = .ok (.getfield 170, 3) := by decide +kernel
theorem d138_90 : decode (mm_cb 138) 90 = .ok (.sipush 2000, 3) := by decide +kernel
theorem d138_93 : decode (mm_cb 138) 93 = .ok (.if_icmp .ne 10, 3) := by decide +kernel
theorem d138_96 : decode (mm_cb 138) 96 = .ok (.aload_n 0, 1) := by decide +kernel
theorem d138_97 : decode (mm_cb 138) 97 = .ok (.iconst 3, 1) := by decide +kernel
theorem d138_98 : decode (mm_cb 138) 98 = .ok (.putfield 65, 3) := by decide +kernel
theorem d138_101 : decode (mm_cb 138) 101 = .ok (.iconst 0, 1) := by decide +kernel
theorem d138_102 : decode (mm_cb 138) 102 = .ok (.ireturn, 1) := by decide +kernel
theorem d138_103 : decode (mm_cb 138) 103 = .ok (.aload_n 0, 1) := by decide +kernel
theorem d138_104 : decode (mm_cb 138) 104 = .ok (.invokevirtual 198, 3) := by decide +kernel
theorem d138_107 : decode (mm_cb 138) 107 = .ok (.istore_n 3, 1) := by decide +kernel
theorem d138_108 : decode (mm_cb 138) 108 = .ok (.goto (-26), 3) := by decide +kernel
theorem d138_111 : decode (mm_cb 138) 111 = .ok (.iload_n 3, 1) := by decide +kernel
theorem d138_112 : decode (mm_cb 138) 112 = .ok (.iconst 2, 1) := by decide +kernel
theorem d138_113 : decode (mm_cb 138) 113 = .ok (.if_icmp .ne 7, 3) := by decide +kernel
theorem d138_116 : decode (mm_cb 138) 116 = .ok (.aload_n 0, 1) := by decide +kernel
theorem d138_117 : decode (mm_cb 138) 117 = .ok (.invokevirtual 138, 3) := by decide +kernel
theorem d138_120 : decode (mm_cb 138) 120 = .ok (.iload_n 3, 1) := by decide +kernel
theorem d138_121 : decode (mm_cb 138) 121 = .ok (.iconst 1, 1) := by decide +kernel
theorem d138_122 : decode (mm_cb 138) 122 = .ok (.if_icmp .ne 7, 3) := by decide +kernel
theorem d138_125 : decode (mm_cb 138) 125 = .ok (.iconst 1, 1) := by decide +kernel
theorem d138_126 : decode (mm_cb 138) 126 = .ok (.goto 4, 3) := by decide +kernel
theorem d138_129 : decode (mm_cb 138) 129 = .ok (.iconst 0, 1) := by decide +kernel
theorem d138_130 : decode (mm_cb 138) 130 = .ok (.ireturn, 1) := by decide +kernel
theorem d139_0 : decode (mm_cb 139) 0 = .ok (.aload_n 0, 1) := by decide +kernel
theorem d139_1 : decode (mm_cb 139) 1 = .ok (.dup, 1) := by decide +kernel
theorem d139_2 : decode (mm_cb 139) 2 = .ok (.getfield 170, 3) := by decide +kernel
theorem d139_5 : decode (mm_cb 139) 5 = .ok (.iconst 1, 1) := by decide +kernel
theorem d139_6 : decode (mm_cb 139) 6 = .ok (.iadd, 1) := by decide +kernel
theorem d139_7 : decode (mm_cb 139) 7 = .ok (.putfield 170, 3) := by decide +kernel
theorem d139_10 : decode (mm_cb 139) 10 = .ok (.aload_n 0, 1) := by decide +kernel
theorem d139_11 : decode (mm_cb 139) 11 = .ok (.invokevirtual 177, 3) := by decide +kernel
theorem d139_14 : decode (mm_cb 139) 14 = .ok (.istore_n 1, 1) := by decide +kernel
theorem d139_15 : decode (mm_cb 139) 15 = .ok (.iload_n 1, 1) := by decide +kernel
theorem d139_16 : decode (mm_cb 139) 16 = .ok (.ifCond .ne 14, 3) := by decide +kernel
theorem d139_19 : decode (mm_cb 139) 19 = .ok (.aload_n 0, 1) := by decide +kernel
theorem d139_20 : decode (mm_cb 139) 20 = .ok (.invokevirtual 191, 3) := by decide +kernel
theorem d139_23 : decode (mm_cb 139) 23 = .ok (.lconst 0, 1) := by decide +kernel
theorem d139_24 : decode (mm_cb 139) 24 = .ok (.lcmp, 1) := by decide +kernel
theorem d139_25 : decode (mm_cb 139) 25 = .ok (.ifCond .le 5, 3) := by decide +kernel
theorem d139_28 : decode (mm_cb 139) 28 = .ok (.iconst 2, 1) := by decide +kernel
theorem d139_29 : decode (mm_cb 139) 29 = .ok (.ireturn, 1) := by decide +kernel
theorem d139_30 : decode (mm_cb 139) 30 = .ok (.iload_n 1, 1) := by decide +kernel
theorem d139_31 : decode (mm_cb 139) 31 = .ok (.iconst 1, 1) := by decide +kernel
theorem d139_32 : decode (mm_cb 139) 32 = .ok (.if_icmp .ne 18, 3) := by decide +kernel
theorem d139_35 : decode (mm_cb 139) 35 = .ok (.aload_n 0, 1) := by decide +kernel
theorem d139_36 : decode (mm_cb 139) 36 = .ok (.aload_n 0, 1) := by decide +kernel
theorem d139_37 : decode (mm_cb 139) 37 = .ok (.getfield 173, 3) := by decide +kernel
theorem d139_40 : decode (mm_cb 139) 40 = .ok (.aload_n 0, 1) := by decide +kernel
theorem d139_41 : decode (mm_cb 139) 41 = .ok (.invokevirtual 191, 3) := by decide +kernel
theorem d139_44 : decode (mm_cb 139) 44 = .ok (.invokestatic 87, 3) := by decide +kernel
theorem d139_47 : decode (mm_cb 139) 47 = .ok (.putfield 173, 3) := by decide +kernel
theorem d139_50 : decode (mm_cb 139) 50 = .ok (.iload_n 1, 1) := by decide +kernel
theorem d139_51 : decode (mm_cb 139) 51 = .ok (.iconst 1, 1) := by decide +kernel
theorem d139_52 : decode (mm_cb 139) 52 = .ok (.if_icmp .le 35, 3) := by decide +kernel
theorem d139_55 : decode (mm_cb 139) 55 = .ok (.aload_n 0, 1) := by decide +kernel
theorem d139_56 : decode (mm_cb 139) 56 = .ok (.getfield 59, 3) := by decide +kernel
theorem d139_59 : decode (mm_cb 139) 59 = .ok (.aload_n 0, 1) := by decide +kernel
theorem d139_60 : decode (mm_cb 139) 60 = .ok (.getfield 184, 3) := by decide +kernel
theorem d139_63 : decode (mm_cb 139) 63 = .ok (.iload_n 1, 1) := by decide +kernel
theorem d139_64 : decode (mm_cb 139) 64 = .ok (.iconst 2, 1) := by decide +kernel
theorem d139_65 : decode (mm_cb 139) 65 = .ok (.isub, 1) := by decide +kernel
theorem d139_66 : decode (mm_cb 139) 66 = .ok (.iastore, 1) := by decide +kernel
theorem d139_67 : decode (mm_cb 139) 67 = .ok (.aload_n 0, 1) := by decide +kernel
theorem d139_68 : decode (mm_cb 139) 68 = .ok (.getfield 62, 3) := by decide +kernel
theorem d139_71 : decode (mm_cb 139) 71 = .ok (.aload_n 0, 1) := by decide +kernel
theorem d139_72 : decode (mm_cb 139) 72 = .ok (.getfield 184, 3) := by decide +kernel
theorem d139_75 : decode (mm_cb 139) 75 = .ok (.iconst (-1), 1) := by decide +kernel
theorem d139_76 : decode (mm_cb 139) 76 = .ok (.iastore, 1) := by decide +kernel
theorem d139_77 : decode (mm_cb 139) 77 = .ok (.aload_n 0, 1) := by decide +kernel
theorem d139_78 : decode (mm_cb 139) 78 = .ok (.dup, 1) := by decide +kernel
theorem d139_79 : decode (mm_cb 139) 79 = .ok (.getfield 184, 3) := by decide +kernel
theorem d139_82 : decode (mm_cb 139) 82 = .ok (.iconst 1, 1) := by decide +kernel
theorem d139_83 : decode (mm_cb 139) 83 = .ok (.iadd, 1) := by decide +kernel
theorem d139_84 : decode (mm_cb 139) 84 = .ok (.putfield 184, 3) := by decide +kernel
theorem d139_87 : decode (mm_cb 139) 87 = .ok (.aload_n 0, 1) := by decide +kernel
theorem d139_88 : decode (mm_cb 139) 88 = .ok (.invokevirtual 195, 3) := by decide +kernel
theorem d139_91 : decode (mm_cb 139) 91 = .ok (.ifCond .eq 7, 3) := by decide +kernel
theorem d139_94 : decode (mm_cb 139) 94 = .ok (.iconst 0, 1) := by decide +kernel
theorem d139_95 : decode (mm_cb 139) 95 = .ok (.goto 4, 3) := by decide +kernel
theorem d139_98 : decode (mm_cb 139) 98 = .ok (.iconst 1, 1) := by decide +kernel
theorem d139_99 : decode (mm_cb 139) 99 = .ok (.ireturn, 1) := by decide +kernel
theorem d140_0 : decode (mm_cb 140) 0 = .ok (.lconst 1, 1) := by decide +kernel
theorem d140_1 : decode (mm_cb 140) 1 = .ok (.lstore_n 1, 1) := by decide +kernel
theorem d140_2 : decode (mm_cb 140) 2 = .ok (.iconst 0, 1) := by decide +kernel
theorem d140_3 : decode (mm_cb 140) 3 = .ok (.istore_n 3, 1) := by decide +kernel
theorem d140_4 : decode (mm_cb 140) 4 = .ok (.iload_n 3, 1) := by decide +kernel
theorem d140_5 : decode (mm_cb 140) 5 = .ok (.sipush 256, 3) := by decide +kernel
theorem d140_8 : decode (mm_cb 140) 8 = .ok (.if_icmp .ge 55, 3) := by decide +kernel
theorem d140_11 : decode (mm_cb 140) 11 = .ok (.aload_n 0, 1) := by decide +kernel
theorem d140_12 : decode (mm_cb 140) 12 = .ok (.getfield 26, 3) := by decide +kernel
theorem d140_15 : decode (mm_cb 140) 15 = .ok (.iload_n 3, 1) := by decide +kernel
theorem d140_16 : decode (mm_cb 140) 16 = .ok (.iaload, 1) := by decide +kernel
theorem d140_17 : decode (mm_cb 140) 17 = .ok (.bipush (-2), 2) := by decide +kernel
theorem d140_19 : decode (mm_cb 140) 19 = .ok (.if_icmp .ne 36, 3) := by decide +kernel
theorem d140_22 : decode (mm_cb 140) 22 = .ok (.lload_n 1, 1) := by decide +kernel
theorem d140_23 : decode (mm_cb 140) 23 = .ok (.aload_n 0, 1) := by decide +kernel
theorem d140_24 : decode (mm_cb 140) 24 = .ok (.getfield 19, 3) := by decide +kernel
theorem d140_27 : decode (mm_cb 140) 27 = .ok (.bipush 6, 2) := by decide +kernel
theorem d140_29 : decode (mm_cb 140) 29 = .ok (.aload_n 0, 1) := by decide +kernel
theorem d140_30 : decode (mm_cb 140) 30 = .ok (.getfield 29, 3) := by decide +kernel
theorem d140_33 : decode (mm_cb 140) 33 = .ok (.iload_n 3, 1) := by decide +kernel
theorem d140_34 : decode (mm_cb 140) 34 = .ok (.iaload, 1) := by decide +kernel
theorem d140_35 : decode (mm_cb 140) 35 = .ok (.imul, 1) := by decide +kernel
theorem d140_36 : decode (mm_cb 140) 36 = .ok (.aload_n 0, 1) := by decide +kernel
theorem d140_37 : decode (mm_cb 140) 37 = .ok (.getfield 181, 3) := by decide +kernel
theorem d140_40 : decode (mm_cb 140) 40 = .ok (.iadd, 1) := by decide +kernel
theorem d140_41 : decode (mm_cb 140) 41 = .ok (.iload_n 3, 1) := by decide +kernel
theorem d140_42 : decode (mm_cb 140) 42 = .ok (.invokestatic 124, 3) := by decide +kernel
theorem d140_45 : decode (mm_cb 140) 45 = .ok (.isub, 1) := by decide +kernel
theorem d140_46 : decode (mm_cb 140) 46 = .ok (.iconst 1, 1) := by decide +kernel
theorem d140_47 : decode (mm_cb 140) 47 = .ok (.iadd, 1) := by decide +kernel
theorem d140_48 : decode (mm_cb 140) 48 = .ok (.laload, 1) := by decide +kernel
theorem d140_49 : decode (mm_cb 140) 49 = .ok (.invokestatic 79, 3) := by decide +kernel
theorem d140_52 : decode (mm_cb 140) 52 = .ok (.goto 4, 3) := by decide +kernel
theorem d140_55 : decode (mm_cb 140) 55 = .ok (.lload_n 1, 1) := by decide +kernel
theorem d140_56 : decode (mm_cb 140) 56 = .ok (.lstore_n 1, 1) := by decide +kernel
theorem d140_57 : decode (mm_cb 140) 57 = .ok (.iinc 3 1, 3) := by decide +kernel
theorem d140_60 : decode (mm_cb 140) 60 = .ok (.goto (-56), 3) := by decide +kernel
theorem d140_63 : decode (mm_cb 140) 63 = .ok (.lload_n 1, 1) := by decide +kernel
theorem d140_64 : decode (mm_cb 140) 64 = .ok (.lreturn, 1) := by decide +kernel
theorem d141_0 : decode (mm_cb 141) 0 = .ok (.aload_n 0, 1) := by decide +kernel
theorem d141_1 : decode (mm_cb 141) 1 = .ok (.getfield 184, 3) := by decide +kernel
theorem d141_4 : decode (mm_cb 141) 4 = .ok (.ifCond .le 12, 3) := by decide +kernel
theorem d141_7 : decode (mm_cb 141) 7 = .ok (.aload_n 0, 1) := by decide +kernel
theorem d141_8 : decode (mm_cb 141) 8 = .ok (.invokevirtual 187, 3) := by decide +kernel
theorem d141_11 : decode (mm_cb 141) 11 = .ok (.ifCond .eq (-11), 3) := by decide +kernel
theorem d141_14 : decode (mm_cb 141) 14 = .ok (.iconst 1, 1) := by decide +kernel
theorem d141_15 : decode (mm_cb 141) 15 = .ok (.ireturn, 1) := by decide +kernel
theorem d141_16 : decode (mm_cb 141) 16 = .ok (.iconst 0, 1) := by decide +kernel
theorem d141_17 : decode (mm_cb 141) 17 = .ok (.ireturn, 1) := by decide +kernel
theorem d142_0 : decode (mm_cb 142) 0 = .ok (.aload_n 0, 1) := by decide +kernel
theorem d142_1 : decode (mm_cb 142) 1 = .ok (.getfield 59, 3) := by decide +kernel
theorem d142_4 : decode (mm_cb 142) 4 = .ok (.aload_n 0, 1) := by decide +kernel
theorem d142_5 : decode (mm_cb 142) 5 = .ok (.getfield 184, 3) := by decide +kernel
theorem d142_8 : decode (mm_cb 142) 8 = .ok (.iconst 1, 1) := by decide +kernel
theorem d142_9 : decode (mm_cb 142) 9 = .ok (.isub, 1) := by decide +kernel
theorem d142_10 : decode (mm_cb 142) 10 = .ok (.iaload, 1) := by decide +kernel
theorem d142_11 : decode (mm_cb 142) 11 = .ok (.istore_n 1, 1) := by decide +kernel
theorem d142_12 : decode (mm_cb 142) 12 = .ok (.aload_n 0, 1) := by decide +kernel
theorem d142_13 : decode (mm_cb 142) 13 = .ok (.getfield 29, 3) := by decide +kernel
theorem d142_16 : decode (mm_cb 142) 16 = .ok (.iload_n 1, 1) := by decide +kernel
theorem d142_17 : decode (mm_cb 142) 17 = .ok (.iaload, 1) := by decide +kernel
theorem d142_18 : decode (mm_cb 142) 18 = .ok (.istore_n 2, 1) := by decide +kernel
theorem d142_19 : decode (mm_cb 142) 19 = .ok (.aload_n 0, 1) := by decide +kernel
theorem d142_20 : decode (mm_cb 142) 20 = .ok (.getfield 62, 3) := by decide +kernel
theorem d142_23 : decode (mm_cb 142) 23 = .ok (.aload_n 0, 1) := by decide +kernel
theorem d142_24 : decode (mm_cb 142) 24 = .ok (.getfield 184, 3) := by decide +kernel
theorem d142_27 : decode (mm_cb 142) 27 = .ok (.iconst 1, 1) := by decide +kernel
theorem d142_28 : decode (mm_cb 142) 28 = .ok (.isub, 1) := by decide +kernel
theorem d142_29 : decode (mm_cb 142) 29 = .ok (.iaload, 1) := by decide +kernel
theorem d142_30 : decode (mm_cb 142) 30 = .ok (.istore_n 3, 1) := by decide +kernel
theorem d142_31 : decode (mm_cb 142) 31 = .ok (.iconst 0, 1) := by decide +kernel
theorem d142_32 : decode (mm_cb 142) 32 = .ok (.istore 4, 2) := by decide +kernel
theorem d142_34 : decode (mm_cb 142) 34 = .ok (.iload_n 3, 1) := by decide +kernel
theorem d142_35 : decode (mm_cb 142) 35 = .ok (.ifCond .lt 38, 3) := by decide +kernel
theorem d142_38 : decode (mm_cb 142) 38 = .ok (.iload 4, 2) := by decide +kernel
theorem d142_40 : decode (mm_cb 142) 40 = .ok (.aload_n 0, 1) := by decide +kernel
theorem d142_41 : decode (mm_cb 142) 41 = .ok (.getfield 13, 3) := by decide +kernel
theorem d142_44 : decode (mm_cb 142) 44 = .ok (.iconst 4, 1) := by decide +kernel
theorem d142_45 : decode (mm_cb 142) 45 = .ok (.iload_n 2, 1) := by decide +kernel
theorem d142_46 : decode (mm_cb 142) 46 = .ok (.imul, 1) := by decide +kernel
theorem d142_47 : decode (mm_cb 142) 47 = .ok (.iload_n 3, 1) := by decide +kernel
theorem d142_48 : decode (mm_cb 142) 48 = .ok (.iadd, 1) := by decide +kernel
theorem d142_49 : decode (mm_cb 142) 49 = .ok (.iaload, 1) := by decide +kernel
theorem d142_50 : decode (mm_cb 142) 50 = .ok (.if_icmp .ge 23, 3) := by decide +kernel
theorem d142_53 : decode (mm_cb 142) 53 = .ok (.aload_n 0, 1) := by decide +kernel
theorem d142_54 : decode (mm_cb 142) 54 = .ok (.getfield 26, 3) := by decide +kernel
theorem d142_57 : decode (mm_cb 142) 57 = .ok (.iconst 4, 1) := by decide +kernel
theorem d142_58 : decode (mm_cb 142) 58 = .ok (.iload_n 1, 1) := by decide +kernel
theorem d142_59 : decode (mm_cb 142) 59 = .ok (.imul, 1) := by decide +kernel
theorem d142_60 : decode (mm_cb 142) 60 = .ok (.iload 4, 2) := by decide +kernel
theorem d142_62 : decode (mm_cb 142) 62 = .ok (.iadd, 1) := by decide +kernel
theorem d142_63 : decode (mm_cb 142) 63 = .ok (.iconst 1, 1) := by decide +kernel
theorem d142_64 : decode (mm_cb 142) 64 = .ok (.iadd, 1) := by decide +kernel
theorem d142_65 : decode (mm_cb 142) 65 = .ok (.iconst (-1), 1) := by decide +kernel
theorem d142_66 : decode (mm_cb 142) 66 = .ok (.iastore, 1) := by decide +kernel
theorem d142_67 : decode (mm_cb 142) 67 = .ok (.iinc 4 1, 3) := by decide +kernel
theorem d142_70 : decode (mm_cb 142) 70 = .ok (.goto (-36), 3) := by decide +kernel
theorem d142_73 : decode (mm_cb 142) 73 = .ok (.aload_n 0, 1) := by decide +kernel
theorem d142_74 : decode (mm_cb 142) 74 = .ok (.getfield 26, 3) := by decide +kernel
theorem d142_77 : decode (mm_cb 142) 77 = .ok (.iload_n 1, 1) := by decide +kernel
theorem d142_78 : decode (mm_cb 142) 78 = .ok (.bipush (-2), 2) := by decide +kernel
theorem d142_80 : decode (mm_cb 142) 80 = .ok (.iastore, 1) := by decide +kernel
theorem d142_81 : decode (mm_cb 142) 81 = .ok (.iinc 3 1, 3) := by decide +kernel
theorem d142_84 : decode (mm_cb 142) 84 = .ok (.iload_n 3, 1) := by decide +kernel
theorem d142_85 : decode (mm_cb 142) 85 = .ok (.aload_n 0, 1) := by decide +kernel
theorem d142_86 : decode (mm_cb 142) 86 = .ok (.getfield 7, 3) := by decide +kernel
theorem d142_89 : decode (mm_cb 142) 89 = .ok (.iload_n 2, 1) := by decide +kernel
theorem d142_90 : decode (mm_cb 142) 90 = .ok (.iaload, 1) := by decide +kernel
theorem d142_91 : decode (mm_cb 142) 91 = .ok (.if_icmp .ge 33, 3) := by decide +kernel
theorem d142_94 : decode (mm_cb 142) 94 = .ok (.aload_n 0, 1) := by decide +kernel
theorem d142_95 : decode (mm_cb 142) 95 = .ok (.getfield 13, 3) := by decide +kernel
theorem d142_98 : decode (mm_cb 142) 98 = .ok (.iconst 4, 1) := by decide +kernel
theorem d142_99 : decode (mm_cb 142) 99 = .ok (.iload_n 2, 1) := by decide +kernel
theorem d142_100 : decode (mm_cb 142) 100 = .ok (.imul, 1) := by decide +kernel
theorem d142_101 : decode (mm_cb 142) 101 = .ok (.iload_n 3, 1) := by decide +kernel
theorem d142_102 : decode (mm_cb 142) 102 = .ok (.iadd, 1) := by decide +kernel
theorem d142_103 : decode (mm_cb 142) 103 = .ok (.iaload, 1) := by decide +kernel
theorem d142_104 : decode (mm_cb 142) 104 = .ok (.ifCond .le 20, 3) := by decide +kernel
theorem d142_107 : decode (mm_cb 142) 107 = .ok (.iload_n 1, 1) := by decide +kernel
theorem d142_108 : decode (mm_cb 142) 108 = .ok (.invokestatic 124, 3) := by decide +kernel
theorem d142_111 : decode (mm_cb 142) 111 = .ok (.aload_n 0, 1) := by decide +kernel
theorem d142_112 : decode (mm_cb 142) 112 = .ok (.getfield 181, 3) := by decide +kernel
theorem d142_115 : decode (mm_cb 142) 115 = .ok (.if_icmp .lt 9, 3) := by decide +kernel
theorem d142_118 : decode (mm_cb 142) 118 = .ok (.iinc 3 1, 3) := by decide +kernel
theorem d142_121 : decode (mm_cb 142) 121 = .ok (.goto (-37), 3) := by decide +kernel
theorem d142_124 : decode (mm_cb 142) 124 = .ok (.iload_n 3, 1) := by decide +kernel
theorem d142_125 : decode (mm_cb 142) 125 = .ok (.aload_n 0, 1) := by decide +kernel
theorem d142_126 : decode (mm_cb 142) 126 = .ok (.getfield 7, 3) := by decide +kernel
theorem d142_129 : decode (mm_cb 142) 129 = .ok (.iload_n 2, 1) := by decide +kernel
theorem d142_130 : decode (mm_cb 142) 130 = .ok (.iaload, 1) := by decide +kernel
theorem d142_131 : decode (mm_cb 142) 131 = .ok (.if_icmp .lt 15, 3) := by decide +kernel
theorem d142_134 : decode (mm_cb 142) 134 = .ok (.aload_n 0, 1) := by decide +kernel
theorem d142_135 : decode (mm_cb 142) 135 = .ok (.dup, 1) := by decide +kernel
theorem d142_136 : decode (mm_cb 142) 136 = .ok (.getfield 184, 3) := by decide +kernel
theorem d142_139 : decode (mm_cb 142) 139 = .ok (.iconst 1, 1) := by decide +kernel
theorem d142_140 : decode (mm_cb 142) 140 = .ok (.isub, 1) := by decide +kernel
theorem d142_141 : decode (mm_cb 142) 141 = .ok (.putfield 184, 3) := by decide +kernel
theorem d142_144 : decode (mm_cb 142) 144 = .ok (.iconst 0, 1) := by decide +kernel
theorem d142_145 : decode (mm_cb 142) 145 = .ok (.ireturn, 1) := by decide +kernel
theorem d142_146 : decode (mm_cb 142) 146 = .ok (.aload_n 0, 1) := by decide +kernel
theorem d142_147 : decode (mm_cb 142) 147 = .ok (.getfield 62, 3) := by decide +kernel
theorem d142_150 : decode (mm_cb 142) 150 = .ok (.aload_n 0, 1) := by decide +kernel
theorem d142_151 : decode (mm_cb 142) 151 = .ok (.getfield 184, 3) := by decide +kernel
theorem d142_154 : decode (mm_cb 142) 154 = .ok (.iconst 1, 1) := by decide +kernel
theorem d142_155 : decode (mm_cb 142) 155 = .ok (.isub, 1) := by decide +kernel
theorem d142_156 : decode (mm_cb 142) 156 = .ok (.iload_n 3, 1) := by decide +kernel
theorem d142_157 : decode (mm_cb 142) 157 = .ok (.iastore, 1) := by decide +kernel
theorem d142_158 : decode (mm_cb 142) 158 = .ok (.aload_n 0, 1) := by decide +kernel
theorem d142_159 : decode (mm_cb 142) 159 = .ok (.getfield 26, 3) := by decide +kernel
theorem d142_162 : decode (mm_cb 142) 162 = .ok (.iload_n 1, 1) := by decide +kernel
theorem d142_163 : decode (mm_cb 142) 163 = .ok (.iload_n 3, 1) := by decide +kernel
theorem d142_164 : decode (mm_cb 142) 164 = .ok (.iastore, 1) := by decide +kernel
theorem d142_165 : decode (mm_cb 142) 165 = .ok (.iconst 0, 1) := by decide +kernel
theorem d142_166 : decode (mm_cb 142) 166 = .ok (.istore 4, 2) := by decide +kernel
theorem d142_168 : decode (mm_cb 142) 168 = .ok (.iload 4, 2) := by decide +kernel
theorem d142_170 : decode (mm_cb 142) 170 = .ok (.aload_n 0, 1) := by decide +kernel
theorem d142_171 : decode (mm_cb 142) 171 = .ok (.getfield 13, 3) := by decide +kernel
theorem d142_174 : decode (mm_cb 142) 174 = .ok (.iconst 4, 1) := by decide +kernel
theorem d142_175 : decode (mm_cb 142) 175 = .ok (.iload_n 2, 1) := by decide +kernel
theorem d142_176 : decode (mm_cb 142) 176 = .ok (.imul, 1) := by decide +kernel
theorem d142_177 : decode (mm_cb 142) 177 = .ok (.iload_n 3, 1) := by decide +kernel
theorem d142_178 : decode (mm_cb 142) 178 = .ok (.iadd, 1) := by decide +kernel
theorem d142_179 : decode (mm_cb 142) 179 = .ok (.iaload, 1) := by decide +kernel
theorem d142_180 : decode (mm_cb 142) 180 = .ok (.if_icmp .ge 45, 3) := by decide +kernel
theorem d142_183 : decode (mm_cb 142) 183 = .ok (.aload_n 0, 1) := by decide +kernel
theorem d142_184 : decode (mm_cb 142) 184 = .ok (.getfield 26, 3) := by decide +kernel
theorem d142_187 : decode (mm_cb 142) 187 = .ok (.iconst 4, 1) := by decide +kernel
theorem d142_188 : decode (mm_cb 142) 188 = .ok (.iload_n 1, 1) := by decide +kernel
theorem d142_189 : decode (mm_cb 142) 189 = .ok (.imul, 1) := by decide +kernel
theorem d142_190 : decode (mm_cb 142) 190 = .ok (.iload 4, 2) := by decide +kernel
theorem d142_192 : decode (mm_cb 142) 192 = .ok (.iadd, 1) := by decide +kernel
theorem d142_193 : decode (mm_cb 142) 193 = .ok (.iconst 1, 1) := by decide +kernel
theorem d142_194 : decode (mm_cb 142) 194 = .ok (.iadd, 1) := by decide +kernel
theorem d142_195 : decode (mm_cb 142) 195 = .ok (.bipush (-2), 2) := by decide +kernel
theorem d142_197 : decode (mm_cb 142) 197 = .ok (.iastore, 1) := by decide +kernel
theorem d142_198 : decode (mm_cb 142) 198 = .ok (.aload_n 0, 1) := by decide +kernel
theorem d142_199 : decode (mm_cb 142) 199 = .ok (.getfield 29, 3) := by decide +kernel
theorem d142_202 : decode (mm_cb 142) 202 = .ok (.iconst 4, 1) := by decide +kernel
theorem d142_203 : decode (mm_cb 142) 203 = .ok (.iload_n 1, 1) := by decide +kernel
theorem d142_204 : decode (mm_cb 142) 204 = .ok (.imul, 1) := by decide +kernel
theorem d142_205 : decode (mm_cb 142) 205 = .ok (.iload 4, 2) := by decide +kernel
theorem d142_207 : decode (mm_cb 142) 207 = .ok (.iadd, 1) := by decide +kernel
theorem d142_208 : decode (mm_cb 142) 208 = .ok (.iconst 1, 1) := by decide +kernel
theorem d142_209 : decode (mm_cb 142) 209 = .ok (.iadd, 1) := by decide +kernel
theorem d142_210 : decode (mm_cb 142) 210 = .ok (.aload_n 0, 1) := by decide +kernel
theorem d142_211 : decode (mm_cb 142) 211 = .ok (.iload_n 2, 1) := by decide +kernel
theorem d142_212 : decode (mm_cb 142) 212 = .ok (.iload_n 3, 1) := by decide +kernel
theorem d142_213 : decode (mm_cb 142) 213 = .ok (.iload 4, 2) := by decide +kernel
theorem d142_215 : decode (mm_cb 142) 215 = .ok (.invokevirtual 75, 3) := by decide +kernel
theorem d142_218 : decode (mm_cb 142) 218 = .ok (.iastore, 1) := by decide +kernel
theorem d142_219 : decode (mm_cb 142) 219 = .ok (.iinc 4 1, 3) := by decide +kernel
theorem d142_222 : decode (mm_cb 142) 222 = .ok (.goto (-54), 3) := by decide +kernel
theorem d142_225 : decode (mm_cb 142) 225 = .ok (.iconst 1, 1) := by decide +kernel
theorem d142_226 : decode (mm_cb 142) 226 = .ok (.ireturn, 1) := by decide +kernel
theorem d143_0 : decode (mm_cb 143) 0 = .ok (.aload_n 0, 1) := by decide +kernel
theorem d143_1 : decode (mm_cb 143) 1 = .ok (.iconst 0, 1) := by decide +kernel
theorem d143_2 : decode (mm_cb 143) 2 = .ok (.putfield 65, 3) := by decide +kernel
theorem d143_5 : decode (mm_cb 143) 5 = .ok (.aload_n 0, 1) := by decide +kernel
theorem d143_6 : decode (mm_cb 143) 6 = .ok (.getfield 170, 3) := by decide +kernel
theorem d143_9 : decode (mm_cb 143) 9 = .ok (.ireturn, 1) := by decide +kernel
theorem d144_0 : decode (mm_cb 144) 0 = .ok (.aload_n 0, 1) := by decide +kernel
theorem d144_1 : decode (mm_cb 144) 1 = .ok (.iconst 0, 1) := by decide +kernel
theorem d144_2 : decode (mm_cb 144) 2 = .ok (.putfield 65, 3) := by decide +kernel
theorem d144_5 : decode (mm_cb 144) 5 = .ok (.aload_n 0, 1) := by decide +kernel
theorem d144_6 : decode (mm_cb 144) 6 = .ok (.getfield 173, 3) := by decide +kernel
theorem d144_9 : decode (mm_cb 144) 9 = .ok (.lreturn, 1) := by decide +kernel
theorem d145_0 : decode (mm_cb 145) 0 = .ok (.new 8, 3) := by decide +kernel
theorem d145_3 : decode (mm_cb 145) 3 = .ok (.dup, 1) := by decide +kernel
