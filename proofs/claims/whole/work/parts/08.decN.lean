theorem dX8_tries_0 : decode cX8_tries 0 = .ok (.iload_n 1, 1) := by decide +kernel
theorem dX8_tries_1 : decode cX8_tries 1 = .ok (.iload_n 2, 1) := by decide +kernel
theorem dX8_tries_2 : decode cX8_tries 2 = .ok (.if_icmp .ne 123, 3) := by decide +kernel
theorem dX8_tries_5 : decode cX8_tries 5 = .ok (.aload_n 0, 1) := by decide +kernel
theorem dX8_tries_6 : decode cX8_tries 6 = .ok (.aload_n 0, 1) := by decide +kernel
theorem dX8_tries_7 : decode cX8_tries 7 = .ok (.getfield 79, 3) := by decide +kernel
theorem dX8_tries_10 : decode cX8_tries 10 = .ok (.invokevirtual 240, 3) := by decide +kernel
theorem dX8_tries_13 : decode cX8_tries 13 = .ok (.iconst 0, 1) := by decide +kernel
theorem dX8_tries_14 : decode cX8_tries 14 = .ok (.istore_n 3, 1) := by decide +kernel
theorem dX8_tries_15 : decode cX8_tries 15 = .ok (.iconst 0, 1) := by decide +kernel
theorem dX8_tries_16 : decode cX8_tries 16 = .ok (.istore 4, 2) := by decide +kernel
theorem dX8_tries_18 : decode cX8_tries 18 = .ok (.iload 4, 2) := by decide +kernel
theorem dX8_tries_20 : decode cX8_tries 20 = .ok (.iload_n 2, 1) := by decide +kernel
theorem dX8_tries_21 : decode cX8_tries 21 = .ok (.if_icmp .ge 23, 3) := by decide +kernel
theorem dX8_tries_24 : decode cX8_tries 24 = .ok (.iload_n 3, 1) := by decide +kernel
theorem dX8_tries_25 : decode cX8_tries 25 = .ok (.aload_n 0, 1) := by decide +kernel
theorem dX8_tries_26 : decode cX8_tries 26 = .ok (.aload_n 0, 1) := by decide +kernel
theorem dX8_tries_27 : decode cX8_tries 27 = .ok (.getfield 85, 3) := by decide +kernel
theorem dX8_tries_30 : decode cX8_tries 30 = .ok (.iload 4, 2) := by decide +kernel
theorem dX8_tries_32 : decode cX8_tries 32 = .ok (.iaload, 1) := by decide +kernel
theorem dX8_tries_33 : decode cX8_tries 33 = .ok (.invokevirtual 234, 3) := by decide +kernel
theorem dX8_tries_36 : decode cX8_tries 36 = .ok (.iadd, 1) := by decide +kernel
theorem dX8_tries_37 : decode cX8_tries 37 = .ok (.istore_n 3, 1) := by decide +kernel
theorem dX8_tries_38 : decode cX8_tries 38 = .ok (.iinc 4 1, 3) := by decide +kernel
theorem dX8_tries_41 : decode cX8_tries 41 = .ok (.goto (-23), 3) := by decide +kernel
theorem dX8_tries_44 : decode cX8_tries 44 = .ok (.aload_n 0, 1) := by decide +kernel
theorem dX8_tries_45 : decode cX8_tries 45 = .ok (.invokevirtual 247, 3) := by decide +kernel
theorem dX8_tries_48 : decode cX8_tries 48 = .ok (.istore 4, 2) := by decide +kernel
theorem dX8_tries_50 : decode cX8_tries 50 = .ok (.aload_n 0, 1) := by decide +kernel
theorem dX8_tries_51 : decode cX8_tries 51 = .ok (.aload_n 0, 1) := by decide +kernel
theorem dX8_tries_52 : decode cX8_tries 52 = .ok (.getfield 79, 3) := by decide +kernel
theorem dX8_tries_55 : decode cX8_tries 55 = .ok (.invokevirtual 250, 3) := by decide +kernel
theorem dX8_tries_58 : decode cX8_tries 58 = .ok (.iload_n 3, 1) := by decide +kernel
theorem dX8_tries_59 : decode cX8_tries 59 = .ok (.aload_n 0, 1) := by decide +kernel
theorem dX8_tries_60 : decode cX8_tries 60 = .ok (.getfield 253, 3) := by decide +kernel
theorem dX8_tries_63 : decode cX8_tries 63 = .ok (.if_icmp .lt 20, 3) := by decide +kernel
theorem dX8_tries_66 : decode cX8_tries 66 = .ok (.iload_n 3, 1) := by decide +kernel
theorem dX8_tries_67 : decode cX8_tries 67 = .ok (.aload_n 0, 1) := by decide +kernel
theorem dX8_tries_68 : decode cX8_tries 68 = .ok (.getfield 253, 3) := by decide +kernel
theorem dX8_tries_71 : decode cX8_tries 71 = .ok (.if_icmp .ne 13, 3) := by decide +kernel
theorem dX8_tries_74 : decode cX8_tries 74 = .ok (.iload 4, 2) := by decide +kernel
theorem dX8_tries_76 : decode cX8_tries 76 = .ok (.aload_n 0, 1) := by decide +kernel
theorem dX8_tries_77 : decode cX8_tries 77 = .ok (.getfield 256, 3) := by decide +kernel
theorem dX8_tries_80 : decode cX8_tries 80 = .ok (.if_icmp .lt 4, 3) := by decide +kernel
theorem dX8_tries_83 : decode cX8_tries 83 = .ok (.return_, 1) := by decide +kernel
theorem dX8_tries_84 : decode cX8_tries 84 = .ok (.aload_n 0, 1) := by decide +kernel
theorem dX8_tries_85 : decode cX8_tries 85 = .ok (.iload_n 3, 1) := by decide +kernel
theorem dX8_tries_86 : decode cX8_tries 86 = .ok (.putfield 253, 3) := by decide +kernel
theorem dX8_tries_89 : decode cX8_tries 89 = .ok (.aload_n 0, 1) := by decide +kernel
theorem dX8_tries_90 : decode cX8_tries 90 = .ok (.iload 4, 2) := by decide +kernel
theorem dX8_tries_92 : decode cX8_tries 92 = .ok (.putfield 256, 3) := by decide +kernel
theorem dX8_tries_95 : decode cX8_tries 95 = .ok (.iconst 0, 1) := by decide +kernel
theorem dX8_tries_96 : decode cX8_tries 96 = .ok (.istore 5, 2) := by decide +kernel
theorem dX8_tries_98 : decode cX8_tries 98 = .ok (.iload 5, 2) := by decide +kernel
theorem dX8_tries_100 : decode cX8_tries 100 = .ok (.iload_n 2, 1) := by decide +kernel
theorem dX8_tries_101 : decode cX8_tries 101 = .ok (.if_icmp .ge 23, 3) := by decide +kernel
theorem dX8_tries_104 : decode cX8_tries 104 = .ok (.aload_n 0, 1) := by decide +kernel
theorem dX8_tries_105 : decode cX8_tries 105 = .ok (.getfield 88, 3) := by decide +kernel
theorem dX8_tries_108 : decode cX8_tries 108 = .ok (.iload 5, 2) := by decide +kernel
theorem dX8_tries_110 : decode cX8_tries 110 = .ok (.aload_n 0, 1) := by decide +kernel
theorem dX8_tries_111 : decode cX8_tries 111 = .ok (.getfield 85, 3) := by decide +kernel
theorem dX8_tries_114 : decode cX8_tries 114 = .ok (.iload 5, 2) := by decide +kernel
theorem dX8_tries_116 : decode cX8_tries 116 = .ok (.iaload, 1) := by decide +kernel
theorem dX8_tries_117 : decode cX8_tries 117 = .ok (.iastore, 1) := by decide +kernel
theorem dX8_tries_118 : decode cX8_tries 118 = .ok (.iinc 5 1, 3) := by decide +kernel
theorem dX8_tries_121 : decode cX8_tries 121 = .ok (.goto (-23), 3) := by decide +kernel
theorem dX8_tries_124 : decode cX8_tries 124 = .ok (.return_, 1) := by decide +kernel
theorem dX8_tries_125 : decode cX8_tries 125 = .ok (.iconst 0, 1) := by decide +kernel
theorem dX8_tries_126 : decode cX8_tries 126 = .ok (.istore_n 3, 1) := by decide +kernel
theorem dX8_tries_127 : decode cX8_tries 127 = .ok (.iload_n 3, 1) := by decide +kernel
theorem dX8_tries_128 : decode cX8_tries 128 = .ok (.aload_n 0, 1) := by decide +kernel
theorem dX8_tries_129 : decode cX8_tries 129 = .ok (.getfield 94, 3) := by decide +kernel
theorem dX8_tries_132 : decode cX8_tries 132 = .ok (.if_icmp .gt 37, 3) := by decide +kernel
theorem dX8_tries_135 : decode cX8_tries 135 = .ok (.aload_n 0, 1) := by decide +kernel
theorem dX8_tries_136 : decode cX8_tries 136 = .ok (.getfield 85, 3) := by decide +kernel
theorem dX8_tries_139 : decode cX8_tries 139 = .ok (.iload_n 1, 1) := by decide +kernel
theorem dX8_tries_140 : decode cX8_tries 140 = .ok (.iload_n 3, 1) := by decide +kernel
theorem dX8_tries_141 : decode cX8_tries 141 = .ok (.aload_n 0, 1) := by decide +kernel
theorem dX8_tries_142 : decode cX8_tries 142 = .ok (.getfield 94, 3) := by decide +kernel
theorem dX8_tries_145 : decode cX8_tries 145 = .ok (.if_icmp .ne 8, 3) := by decide +kernel
theorem dX8_tries_148 : decode cX8_tries 148 = .ok (.bipush 7, 2) := by decide +kernel
theorem dX8_tries_150 : decode cX8_tries 150 = .ok (.goto 4, 3) := by decide +kernel
theorem dX8_tries_153 : decode cX8_tries 153 = .ok (.iload_n 3, 1) := by decide +kernel
theorem dX8_tries_154 : decode cX8_tries 154 = .ok (.iastore, 1) := by decide +kernel
theorem dX8_tries_155 : decode cX8_tries 155 = .ok (.aload_n 0, 1) := by decide +kernel
theorem dX8_tries_156 : decode cX8_tries 156 = .ok (.iload_n 1, 1) := by decide +kernel
theorem dX8_tries_157 : decode cX8_tries 157 = .ok (.iconst 1, 1) := by decide +kernel
theorem dX8_tries_158 : decode cX8_tries 158 = .ok (.iadd, 1) := by decide +kernel
theorem dX8_tries_159 : decode cX8_tries 159 = .ok (.iload_n 2, 1) := by decide +kernel
theorem dX8_tries_160 : decode cX8_tries 160 = .ok (.invokevirtual 259, 3) := by decide +kernel
theorem dX8_tries_163 : decode cX8_tries 163 = .ok (.iinc 3 1, 3) := by decide +kernel
theorem dX8_tries_166 : decode cX8_tries 166 = .ok (.goto (-39), 3) := by decide +kernel
theorem dX8_tries_169 : decode cX8_tries 169 = .ok (.return_, 1) := by decide +kernel
theorem dX8_bestRota_0 : decode cX8_bestRota 0 = .ok (.iload_n 1, 1) := by decide +kernel
theorem dX8_bestRota_1 : decode cX8_bestRota 1 = .ok (.iconst 0, 1) := by decide +kernel
theorem dX8_bestRota_2 : decode cX8_bestRota 2 = .ok (.iconst 4, 1) := by decide +kernel
theorem dX8_bestRota_3 : decode cX8_bestRota 3 = .ok (.invokestatic 98, 3) := by decide +kernel
theorem dX8_bestRota_6 : decode cX8_bestRota 6 = .ok (.ifCond .eq 15, 3) := by decide +kernel
theorem dX8_bestRota_9 : decode cX8_bestRota 9 = .ok (.iload_n 2, 1) := by decide +kernel
theorem dX8_bestRota_10 : decode cX8_bestRota 10 = .ok (.bipush (-2), 2) := by decide +kernel
theorem dX8_bestRota_12 : decode cX8_bestRota 12 = .ok (.iload_n 1, 1) := by decide +kernel
theorem dX8_bestRota_13 : decode cX8_bestRota 13 = .ok (.iconst 1, 1) := by decide +kernel
theorem dX8_bestRota_14 : decode cX8_bestRota 14 = .ok (.isub, 1) := by decide +kernel
theorem dX8_bestRota_15 : decode cX8_bestRota 15 = .ok (.invokestatic 98, 3) := by decide +kernel
theorem dX8_bestRota_18 : decode cX8_bestRota 18 = .ok (.ifCond .ne 5, 3) := by decide +kernel
theorem dX8_bestRota_21 : decode cX8_bestRota 21 = .ok (.iconst (-1), 1) := by decide +kernel
theorem dX8_bestRota_22 : decode cX8_bestRota 22 = .ok (.ireturn, 1) := by decide +kernel
theorem dX8_bestRota_23 : decode cX8_bestRota 23 = .ok (.aload_n 0, 1) := by decide +kernel
theorem dX8_bestRota_24 : decode cX8_bestRota 24 = .ok (.iconst (-1), 1) := by decide +kernel
theorem dX8_bestRota_25 : decode cX8_bestRota 25 = .ok (.putfield 253, 3) := by decide +kernel
theorem dX8_bestRota_28 : decode cX8_bestRota 28 = .ok (.aload_n 0, 1) := by decide +kernel
theorem dX8_bestRota_29 : decode cX8_bestRota 29 = .ok (.iconst 0, 1) := by decide +kernel
theorem dX8_bestRota_30 : decode cX8_bestRota 30 = .ok (.putfield 256, 3) := by decide +kernel
theorem dX8_bestRota_33 : decode cX8_bestRota 33 = .ok (.aload_n 0, 1) := by decide +kernel
theorem dX8_bestRota_34 : decode cX8_bestRota 34 = .ok (.iconst 0, 1) := by decide +kernel
theorem dX8_bestRota_35 : decode cX8_bestRota 35 = .ok (.iload_n 1, 1) := by decide +kernel
theorem dX8_bestRota_36 : decode cX8_bestRota 36 = .ok (.invokevirtual 259, 3) := by decide +kernel
theorem dX8_bestRota_39 : decode cX8_bestRota 39 = .ok (.iload_n 2, 1) := by decide +kernel
theorem dX8_bestRota_40 : decode cX8_bestRota 40 = .ok (.iconst (-1), 1) := by decide +kernel
theorem dX8_bestRota_41 : decode cX8_bestRota 41 = .ok (.if_icmp .ne 10, 3) := by decide +kernel
theorem dX8_bestRota_44 : decode cX8_bestRota 44 = .ok (.aload_n 0, 1) := by decide +kernel
theorem dX8_bestRota_45 : decode cX8_bestRota 45 = .ok (.getfield 253, 3) := by decide +kernel
theorem dX8_bestRota_48 : decode cX8_bestRota 48 = .ok (.goto 22, 3) := by decide +kernel
theorem dX8_bestRota_51 : decode cX8_bestRota 51 = .ok (.iload_n 2, 1) := by decide +kernel
theorem dX8_bestRota_52 : decode cX8_bestRota 52 = .ok (.bipush (-2), 2) := by decide +kernel
theorem dX8_bestRota_54 : decode cX8_bestRota 54 = .ok (.if_icmp .ne 10, 3) := by decide +kernel
theorem dX8_bestRota_57 : decode cX8_bestRota 57 = .ok (.aload_n 0, 1) := by decide +kernel
theorem dX8_bestRota_58 : decode cX8_bestRota 58 = .ok (.getfield 256, 3) := by decide +kernel
theorem dX8_bestRota_61 : decode cX8_bestRota 61 = .ok (.goto 9, 3) := by decide +kernel
theorem dX8_bestRota_64 : decode cX8_bestRota 64 = .ok (.aload_n 0, 1) := by decide +kernel
theorem dX8_bestRota_65 : decode cX8_bestRota 65 = .ok (.getfield 88, 3) := by decide +kernel
theorem dX8_bestRota_68 : decode cX8_bestRota 68 = .ok (.iload_n 2, 1) := by decide +kernel
theorem dX8_bestRota_69 : decode cX8_bestRota 69 = .ok (.iaload, 1) := by decide +kernel
theorem dX8_bestRota_70 : decode cX8_bestRota 70 = .ok (.ireturn, 1) := by decide +kernel
theorem dX8_knownBy_0 : decode cX8_knownBy 0 = .ok (.iconst 0, 1) := by decide +kernel
theorem dX8_knownBy_1 : decode cX8_knownBy 1 = .ok (.istore_n 2, 1) := by decide +kernel
theorem dX8_knownBy_2 : decode cX8_knownBy 2 = .ok (.iconst 0, 1) := by decide +kernel
theorem dX8_knownBy_3 : decode cX8_knownBy 3 = .ok (.istore_n 3, 1) := by decide +kernel
theorem dX8_knownBy_4 : decode cX8_knownBy 4 = .ok (.iload_n 3, 1) := by decide +kernel
theorem dX8_knownBy_5 : decode cX8_knownBy 5 = .ok (.aload_n 0, 1) := by decide +kernel
theorem dX8_knownBy_6 : decode cX8_knownBy 6 = .ok (.getfield 94, 3) := by decide +kernel
theorem dX8_knownBy_9 : decode cX8_knownBy 9 = .ok (.if_icmp .ge 29, 3) := by decide +kernel
theorem dX8_knownBy_12 : decode cX8_knownBy 12 = .ok (.iload_n 1, 1) := by decide +kernel
theorem dX8_knownBy_13 : decode cX8_knownBy 13 = .ok (.iload_n 3, 1) := by decide +kernel
theorem dX8_knownBy_14 : decode cX8_knownBy 14 = .ok (.invokestatic 203, 3) := by decide +kernel
theorem dX8_knownBy_17 : decode cX8_knownBy 17 = .ok (.ifCond .eq 15, 3) := by decide +kernel
theorem dX8_knownBy_20 : decode cX8_knownBy 20 = .ok (.iload_n 2, 1) := by decide +kernel
theorem dX8_knownBy_21 : decode cX8_knownBy 21 = .ok (.aload_n 0, 1) := by decide +kernel
theorem dX8_knownBy_22 : decode cX8_knownBy 22 = .ok (.getfield 9, 3) := by decide +kernel
theorem dX8_knownBy_25 : decode cX8_knownBy 25 = .ok (.bipush 14, 2) := by decide +kernel
theorem dX8_knownBy_27 : decode cX8_knownBy 27 = .ok (.iload_n 3, 1) := by decide +kernel
theorem dX8_knownBy_28 : decode cX8_knownBy 28 = .ok (.iadd, 1) := by decide +kernel
theorem dX8_knownBy_29 : decode cX8_knownBy 29 = .ok (.iaload, 1) := by decide +kernel
theorem dX8_knownBy_30 : decode cX8_knownBy 30 = .ok (.ior, 1) := by decide +kernel
theorem dX8_knownBy_31 : decode cX8_knownBy 31 = .ok (.istore_n 2, 1) := by decide +kernel
theorem dX8_knownBy_32 : decode cX8_knownBy 32 = .ok (.iinc 3 1, 3) := by decide +kernel
theorem dX8_knownBy_35 : decode cX8_knownBy 35 = .ok (.goto (-31), 3) := by decide +kernel
theorem dX8_knownBy_38 : decode cX8_knownBy 38 = .ok (.iload_n 2, 1) := by decide +kernel
theorem dX8_knownBy_39 : decode cX8_knownBy 39 = .ok (.ireturn, 1) := by decide +kernel
theorem dX8_told_0 : decode cX8_told 0 = .ok (.aload_n 0, 1) := by decide +kernel
theorem dX8_told_1 : decode cX8_told 1 = .ok (.iload_n 1, 1) := by decide +kernel
theorem dX8_told_2 : decode cX8_told 2 = .ok (.invokevirtual 116, 3) := by decide +kernel
theorem dX8_told_5 : decode cX8_told 5 = .ok (.ifCond .eq 23, 3) := by decide +kernel
theorem dX8_told_8 : decode cX8_told 8 = .ok (.iload_n 2, 1) := by decide +kernel
theorem dX8_told_9 : decode cX8_told 9 = .ok (.iconst 0, 1) := by decide +kernel
theorem dX8_told_10 : decode cX8_told 10 = .ok (.sipush 255, 3) := by decide +kernel
theorem dX8_told_13 : decode cX8_told 13 = .ok (.invokestatic 98, 3) := by decide +kernel
theorem dX8_told_16 : decode cX8_told 16 = .ok (.ifCond .eq 12, 3) := by decide +kernel
theorem dX8_told_19 : decode cX8_told 19 = .ok (.iload_n 3, 1) := by decide +kernel
theorem dX8_told_20 : decode cX8_told 20 = .ok (.iconst 0, 1) := by decide +kernel
theorem dX8_told_21 : decode cX8_told 21 = .ok (.iconst 1, 1) := by decide +kernel
theorem dX8_told_22 : decode cX8_told 22 = .ok (.invokestatic 98, 3) := by decide +kernel
theorem dX8_told_25 : decode cX8_told 25 = .ok (.ifCond .ne 5, 3) := by decide +kernel
theorem dX8_told_28 : decode cX8_told 28 = .ok (.iconst (-1), 1) := by decide +kernel
theorem dX8_told_29 : decode cX8_told 29 = .ok (.ireturn, 1) := by decide +kernel
theorem dX8_told_30 : decode cX8_told 30 = .ok (.bipush (-2), 2) := by decide +kernel
theorem dX8_told_32 : decode cX8_told 32 = .ok (.istore 4, 2) := by decide +kernel
theorem dX8_told_34 : decode cX8_told 34 = .ok (.iconst 0, 1) := by decide +kernel
theorem dX8_told_35 : decode cX8_told 35 = .ok (.istore 5, 2) := by decide +kernel
theorem dX8_told_37 : decode cX8_told 37 = .ok (.iload 5, 2) := by decide +kernel
theorem dX8_told_39 : decode cX8_told 39 = .ok (.iconst 1, 1) := by decide +kernel
theorem dX8_told_40 : decode cX8_told 40 = .ok (.aload_n 0, 1) := by decide +kernel
theorem dX8_told_41 : decode cX8_told 41 = .ok (.getfield 94, 3) := by decide +kernel
theorem dX8_told_44 : decode cX8_told 44 = .ok (.ishl, 1) := by decide +kernel
theorem dX8_told_45 : decode cX8_told 45 = .ok (.if_icmp .ge 68, 3) := by decide +kernel
theorem dX8_told_48 : decode cX8_told 48 = .ok (.iload 5, 2) := by decide +kernel
theorem dX8_told_50 : decode cX8_told 50 = .ok (.iload_n 1, 1) := by decide +kernel
theorem dX8_told_51 : decode cX8_told 51 = .ok (.invokestatic 203, 3) := by decide +kernel
theorem dX8_told_54 : decode cX8_told 54 = .ok (.ifCond .ne 53, 3) := by decide +kernel
theorem dX8_told_57 : decode cX8_told 57 = .ok (.iload_n 2, 1) := by decide +kernel
theorem dX8_told_58 : decode cX8_told 58 = .ok (.aload_n 0, 1) := by decide +kernel
theorem dX8_told_59 : decode cX8_told 59 = .ok (.getfield 9, 3) := by decide +kernel
theorem dX8_told_62 : decode cX8_told 62 = .ok (.bipush 14, 2) := by decide +kernel
theorem dX8_told_64 : decode cX8_told 64 = .ok (.iload_n 1, 1) := by decide +kernel
theorem dX8_told_65 : decode cX8_told 65 = .ok (.iadd, 1) := by decide +kernel
theorem dX8_told_66 : decode cX8_told 66 = .ok (.iaload, 1) := by decide +kernel
theorem dX8_told_67 : decode cX8_told 67 = .ok (.aload_n 0, 1) := by decide +kernel
theorem dX8_told_68 : decode cX8_told 68 = .ok (.iload 5, 2) := by decide +kernel
theorem dX8_told_70 : decode cX8_told 70 = .ok (.invokevirtual 263, 3) := by decide +kernel
theorem dX8_told_73 : decode cX8_told 73 = .ok (.ior, 1) := by decide +kernel
theorem dX8_told_74 : decode cX8_told 74 = .ok (.iconst (-1), 1) := by decide +kernel
theorem dX8_told_75 : decode cX8_told 75 = .ok (.ixor, 1) := by decide +kernel
theorem dX8_told_76 : decode cX8_told 76 = .ok (.iand, 1) := by decide +kernel
theorem dX8_told_77 : decode cX8_told 77 = .ok (.ifCond .eq 6, 3) := by decide +kernel
theorem dX8_told_80 : decode cX8_told 80 = .ok (.goto 27, 3) := by decide +kernel
theorem dX8_told_83 : decode cX8_told 83 = .ok (.iload 4, 2) := by decide +kernel
theorem dX8_told_85 : decode cX8_told 85 = .ok (.bipush (-2), 2) := by decide +kernel
theorem dX8_told_87 : decode cX8_told 87 = .ok (.if_icmp .eq 16, 3) := by decide +kernel
theorem dX8_told_90 : decode cX8_told 90 = .ok (.iload 5, 2) := by decide +kernel
theorem dX8_told_92 : decode cX8_told 92 = .ok (.invokestatic 209, 3) := by decide +kernel
theorem dX8_told_95 : decode cX8_told 95 = .ok (.iload 4, 2) := by decide +kernel
theorem dX8_told_97 : decode cX8_told 97 = .ok (.invokestatic 209, 3) := by decide +kernel
theorem dX8_told_100 : decode cX8_told 100 = .ok (.if_icmp .ge 7, 3) := by decide +kernel
theorem dX8_told_103 : decode cX8_told 103 = .ok (.iload 5, 2) := by decide +kernel
theorem dX8_told_105 : decode cX8_told 105 = .ok (.istore 4, 2) := by decide +kernel
theorem dX8_told_107 : decode cX8_told 107 = .ok (.iinc 5 1, 3) := by decide +kernel
theorem dX8_told_110 : decode cX8_told 110 = .ok (.goto (-73), 3) := by decide +kernel
theorem dX8_told_113 : decode cX8_told 113 = .ok (.iload_n 3, 1) := by decide +kernel
theorem dX8_told_114 : decode cX8_told 114 = .ok (.iconst 1, 1) := by decide +kernel
theorem dX8_told_115 : decode cX8_told 115 = .ok (.if_icmp .eq 10, 3) := by decide +kernel
theorem dX8_told_118 : decode cX8_told 118 = .ok (.iload 4, 2) := by decide +kernel
theorem dX8_told_120 : decode cX8_told 120 = .ok (.bipush (-2), 2) := by decide +kernel
theorem dX8_told_122 : decode cX8_told 122 = .ok (.if_icmp .ne 8, 3) := by decide +kernel
theorem dX8_told_125 : decode cX8_told 125 = .ok (.iload 4, 2) := by decide +kernel
theorem dX8_told_127 : decode cX8_told 127 = .ok (.goto 8, 3) := by decide +kernel
theorem dX8_told_130 : decode cX8_told 130 = .ok (.iload 4, 2) := by decide +kernel
theorem dX8_told_132 : decode cX8_told 132 = .ok (.invokestatic 209, 3) := by decide +kernel
theorem dX8_told_135 : decode cX8_told 135 = .ok (.ireturn, 1) := by decide +kernel
theorem dX8_parts_0 : decode cX8_parts 0 = .ok (.iconst 0, 1) := by decide +kernel
theorem dX8_parts_1 : decode cX8_parts 1 = .ok (.istore_n 2, 1) := by decide +kernel
theorem dX8_parts_2 : decode cX8_parts 2 = .ok (.iload_n 2, 1) := by decide +kernel
theorem dX8_parts_3 : decode cX8_parts 3 = .ok (.aload_n 0, 1) := by decide +kernel
theorem dX8_parts_4 : decode cX8_parts 4 = .ok (.getfield 94, 3) := by decide +kernel
theorem dX8_parts_7 : decode cX8_parts 7 = .ok (.if_icmp .ge 53, 3) := by decide +kernel
theorem dX8_parts_10 : decode cX8_parts 10 = .ok (.iload_n 2, 1) := by decide +kernel
theorem dX8_parts_11 : decode cX8_parts 11 = .ok (.iconst 1, 1) := by decide +kernel
theorem dX8_parts_12 : decode cX8_parts 12 = .ok (.iadd, 1) := by decide +kernel
theorem dX8_parts_13 : decode cX8_parts 13 = .ok (.istore_n 3, 1) := by decide +kernel
theorem dX8_parts_14 : decode cX8_parts 14 = .ok (.iload_n 3, 1) := by decide +kernel
theorem dX8_parts_15 : decode cX8_parts 15 = .ok (.aload_n 0, 1) := by decide +kernel
theorem dX8_parts_16 : decode cX8_parts 16 = .ok (.getfield 94, 3) := by decide +kernel
theorem dX8_parts_19 : decode cX8_parts 19 = .ok (.if_icmp .ge 35, 3) := by decide +kernel
theorem dX8_parts_22 : decode cX8_parts 22 = .ok (.aload_n 0, 1) := by decide +kernel
theorem dX8_parts_23 : decode cX8_parts 23 = .ok (.getfield 9, 3) := by decide +kernel
theorem dX8_parts_26 : decode cX8_parts 26 = .ok (.bipush 14, 2) := by decide +kernel
theorem dX8_parts_28 : decode cX8_parts 28 = .ok (.iload_n 2, 1) := by decide +kernel
theorem dX8_parts_29 : decode cX8_parts 29 = .ok (.iadd, 1) := by decide +kernel
theorem dX8_parts_30 : decode cX8_parts 30 = .ok (.iaload, 1) := by decide +kernel
theorem dX8_parts_31 : decode cX8_parts 31 = .ok (.aload_n 0, 1) := by decide +kernel
theorem dX8_parts_32 : decode cX8_parts 32 = .ok (.getfield 9, 3) := by decide +kernel
theorem dX8_parts_35 : decode cX8_parts 35 = .ok (.bipush 14, 2) := by decide +kernel
theorem dX8_parts_37 : decode cX8_parts 37 = .ok (.iload_n 3, 1) := by decide +kernel
theorem dX8_parts_38 : decode cX8_parts 38 = .ok (.iadd, 1) := by decide +kernel
theorem dX8_parts_39 : decode cX8_parts 39 = .ok (.iaload, 1) := by decide +kernel
theorem dX8_parts_40 : decode cX8_parts 40 = .ok (.ixor, 1) := by decide +kernel
theorem dX8_parts_41 : decode cX8_parts 41 = .ok (.iload_n 1, 1) := by decide +kernel
theorem dX8_parts_42 : decode cX8_parts 42 = .ok (.iand, 1) := by decide +kernel
theorem dX8_parts_43 : decode cX8_parts 43 = .ok (.ifCond .ne 5, 3) := by decide +kernel
theorem dX8_parts_46 : decode cX8_parts 46 = .ok (.iconst 0, 1) := by decide +kernel
theorem dX8_parts_47 : decode cX8_parts 47 = .ok (.ireturn, 1) := by decide +kernel
theorem dX8_parts_48 : decode cX8_parts 48 = .ok (.iinc 3 1, 3) := by decide +kernel
theorem dX8_parts_51 : decode cX8_parts 51 = .ok (.goto (-37), 3) := by decide +kernel
theorem dX8_parts_54 : decode cX8_parts 54 = .ok (.iinc 2 1, 3) := by decide +kernel
theorem dX8_parts_57 : decode cX8_parts 57 = .ok (.goto (-55), 3) := by decide +kernel
theorem dX8_parts_60 : decode cX8_parts 60 = .ok (.iconst 1, 1) := by decide +kernel
theorem dX8_parts_61 : decode cX8_parts 61 = .ok (.ireturn, 1) := by decide +kernel
theorem dX8_apart_0 : decode cX8_apart 0 = .ok (.iload_n 1, 1) := by decide +kernel
theorem dX8_apart_1 : decode cX8_apart 1 = .ok (.iconst 0, 1) := by decide +kernel
theorem dX8_apart_2 : decode cX8_apart 2 = .ok (.iconst 3, 1) := by decide +kernel
theorem dX8_apart_3 : decode cX8_apart 3 = .ok (.invokestatic 98, 3) := by decide +kernel
theorem dX8_apart_6 : decode cX8_apart 6 = .ok (.ifCond .ne 5, 3) := by decide +kernel
theorem dX8_apart_9 : decode cX8_apart 9 = .ok (.iconst (-1), 1) := by decide +kernel
theorem dX8_apart_10 : decode cX8_apart 10 = .ok (.ireturn, 1) := by decide +kernel
theorem dX8_apart_11 : decode cX8_apart 11 = .ok (.iload_n 1, 1) := by decide +kernel
theorem dX8_apart_12 : decode cX8_apart 12 = .ok (.iconst 3, 1) := by decide +kernel
theorem dX8_apart_13 : decode cX8_apart 13 = .ok (.if_icmp .ne 16, 3) := by decide +kernel
theorem dX8_apart_16 : decode cX8_apart 16 = .ok (.aload_n 0, 1) := by decide +kernel
theorem dX8_apart_17 : decode cX8_apart 17 = .ok (.iconst 1, 1) := by decide +kernel
theorem dX8_apart_18 : decode cX8_apart 18 = .ok (.aload_n 0, 1) := by decide +kernel
theorem dX8_apart_19 : decode cX8_apart 19 = .ok (.getfield 94, 3) := by decide +kernel
theorem dX8_apart_22 : decode cX8_apart 22 = .ok (.ishl, 1) := by decide +kernel
theorem dX8_apart_23 : decode cX8_apart 23 = .ok (.iconst 1, 1) := by decide +kernel
theorem dX8_apart_24 : decode cX8_apart 24 = .ok (.isub, 1) := by decide +kernel
theorem dX8_apart_25 : decode cX8_apart 25 = .ok (.invokevirtual 263, 3) := by decide +kernel
theorem dX8_apart_28 : decode cX8_apart 28 = .ok (.ireturn, 1) := by decide +kernel
theorem dX8_apart_29 : decode cX8_apart 29 = .ok (.sipush 255, 3) := by decide +kernel
theorem dX8_apart_32 : decode cX8_apart 32 = .ok (.istore_n 2, 1) := by decide +kernel
theorem dX8_apart_33 : decode cX8_apart 33 = .ok (.iconst 0, 1) := by decide +kernel
theorem dX8_apart_34 : decode cX8_apart 34 = .ok (.istore_n 3, 1) := by decide +kernel
theorem dX8_apart_35 : decode cX8_apart 35 = .ok (.iload_n 3, 1) := by decide +kernel
theorem dX8_apart_36 : decode cX8_apart 36 = .ok (.aload_n 0, 1) := by decide +kernel
theorem dX8_apart_37 : decode cX8_apart 37 = .ok (.getfield 94, 3) := by decide +kernel
theorem dX8_apart_40 : decode cX8_apart 40 = .ok (.if_icmp .ge 21, 3) := by decide +kernel
theorem dX8_apart_43 : decode cX8_apart 43 = .ok (.iload_n 2, 1) := by decide +kernel
theorem dX8_apart_44 : decode cX8_apart 44 = .ok (.aload_n 0, 1) := by decide +kernel
theorem dX8_apart_45 : decode cX8_apart 45 = .ok (.getfield 9, 3) := by decide +kernel
theorem dX8_apart_48 : decode cX8_apart 48 = .ok (.bipush 14, 2) := by decide +kernel
theorem dX8_apart_50 : decode cX8_apart 50 = .ok (.iload_n 3, 1) := by decide +kernel
theorem dX8_apart_51 : decode cX8_apart 51 = .ok (.iadd, 1) := by decide +kernel
theorem dX8_apart_52 : decode cX8_apart 52 = .ok (.iaload, 1) := by decide +kernel
theorem dX8_apart_53 : decode cX8_apart 53 = .ok (.iand, 1) := by decide +kernel
theorem dX8_apart_54 : decode cX8_apart 54 = .ok (.istore_n 2, 1) := by decide +kernel
theorem dX8_apart_55 : decode cX8_apart 55 = .ok (.iinc 3 1, 3) := by decide +kernel
theorem dX8_apart_58 : decode cX8_apart 58 = .ok (.goto (-23), 3) := by decide +kernel
theorem dX8_apart_61 : decode cX8_apart 61 = .ok (.iload_n 1, 1) := by decide +kernel
theorem dX8_apart_62 : decode cX8_apart 62 = .ok (.iconst 2, 1) := by decide +kernel
theorem dX8_apart_63 : decode cX8_apart 63 = .ok (.if_icmp .ne 5, 3) := by decide +kernel
theorem dX8_apart_66 : decode cX8_apart 66 = .ok (.iload_n 2, 1) := by decide +kernel
theorem dX8_apart_67 : decode cX8_apart 67 = .ok (.ireturn, 1) := by decide +kernel
theorem dX8_apart_68 : decode cX8_apart 68 = .ok (.bipush (-2), 2) := by decide +kernel
theorem dX8_apart_70 : decode cX8_apart 70 = .ok (.istore_n 3, 1) := by decide +kernel
theorem dX8_apart_71 : decode cX8_apart 71 = .ok (.iconst 0, 1) := by decide +kernel
theorem dX8_apart_72 : decode cX8_apart 72 = .ok (.istore 4, 2) := by decide +kernel
theorem dX8_apart_74 : decode cX8_apart 74 = .ok (.iload 4, 2) := by decide +kernel
theorem dX8_apart_76 : decode cX8_apart 76 = .ok (.sipush 256, 3) := by decide +kernel
theorem dX8_apart_79 : decode cX8_apart 79 = .ok (.if_icmp .ge 39, 3) := by decide +kernel
theorem dX8_apart_82 : decode cX8_apart 82 = .ok (.aload_n 0, 1) := by decide +kernel
theorem dX8_apart_83 : decode cX8_apart 83 = .ok (.iload 4, 2) := by decide +kernel
theorem dX8_apart_85 : decode cX8_apart 85 = .ok (.invokevirtual 266, 3) := by decide +kernel
theorem dX8_apart_88 : decode cX8_apart 88 = .ok (.ifCond .eq 24, 3) := by decide +kernel
theorem dX8_apart_91 : decode cX8_apart 91 = .ok (.iload_n 3, 1) := by decide +kernel
theorem dX8_apart_92 : decode cX8_apart 92 = .ok (.bipush (-2), 2) := by decide +kernel
theorem dX8_apart_94 : decode cX8_apart 94 = .ok (.if_icmp .eq 15, 3) := by decide +kernel
theorem dX8_apart_97 : decode cX8_apart 97 = .ok (.iload 4, 2) := by decide +kernel
theorem dX8_apart_99 : decode cX8_apart 99 = .ok (.invokestatic 209, 3) := by decide +kernel
theorem dX8_apart_102 : decode cX8_apart 102 = .ok (.iload_n 3, 1) := by decide +kernel
theorem dX8_apart_103 : decode cX8_apart 103 = .ok (.invokestatic 209, 3) := by decide +kernel
theorem dX8_apart_106 : decode cX8_apart 106 = .ok (.if_icmp .ge 6, 3) := by decide +kernel
theorem dX8_apart_109 : decode cX8_apart 109 = .ok (.iload 4, 2) := by decide +kernel
theorem dX8_apart_111 : decode cX8_apart 111 = .ok (.istore_n 3, 1) := by decide +kernel
theorem dX8_apart_112 : decode cX8_apart 112 = .ok (.iinc 4 1, 3) := by decide +kernel
theorem dX8_apart_115 : decode cX8_apart 115 = .ok (.goto (-41), 3) := by decide +kernel
theorem dX8_apart_118 : decode cX8_apart 118 = .ok (.iload_n 1, 1) := by decide +kernel
theorem dX8_apart_119 : decode cX8_apart 119 = .ok (.iconst 1, 1) := by decide +kernel
theorem dX8_apart_120 : decode cX8_apart 120 = .ok (.if_icmp .eq 9, 3) := by decide +kernel
theorem dX8_apart_123 : decode cX8_apart 123 = .ok (.iload_n 3, 1) := by decide +kernel
theorem dX8_apart_124 : decode cX8_apart 124 = .ok (.bipush (-2), 2) := by decide +kernel
theorem dX8_apart_126 : decode cX8_apart 126 = .ok (.if_icmp .ne 7, 3) := by decide +kernel
theorem dX8_apart_129 : decode cX8_apart 129 = .ok (.iload_n 3, 1) := by decide +kernel
theorem dX8_apart_130 : decode cX8_apart 130 = .ok (.goto 7, 3) := by decide +kernel
theorem dX8_apart_133 : decode cX8_apart 133 = .ok (.iload_n 3, 1) := by decide +kernel
theorem dX8_apart_134 : decode cX8_apart 134 = .ok (.invokestatic 209, 3) := by decide +kernel
theorem dX8_apart_137 : decode cX8_apart 137 = .ok (.ireturn, 1) := by decide +kernel
theorem dX8_deals_0 : decode cX8_deals 0 = .ok (.iload_n 1, 1) := by decide +kernel
theorem dX8_deals_1 : decode cX8_deals 1 = .ok (.bipush 7, 2) := by decide +kernel
theorem dX8_deals_3 : decode cX8_deals 3 = .ok (.if_icmp .ne 48, 3) := by decide +kernel
theorem dX8_deals_6 : decode cX8_deals 6 = .ok (.iload_n 3, 1) := by decide +kernel
theorem dX8_deals_7 : decode cX8_deals 7 = .ok (.aload_n 0, 1) := by decide +kernel
theorem dX8_deals_8 : decode cX8_deals 8 = .ok (.getfield 253, 3) := by decide +kernel
theorem dX8_deals_11 : decode cX8_deals 11 = .ok (.if_icmp .gt 4, 3) := by decide +kernel
theorem dX8_deals_14 : decode cX8_deals 14 = .ok (.return_, 1) := by decide +kernel
theorem dX8_deals_15 : decode cX8_deals 15 = .ok (.aload_n 0, 1) := by decide +kernel
theorem dX8_deals_16 : decode cX8_deals 16 = .ok (.iload_n 3, 1) := by decide +kernel
theorem dX8_deals_17 : decode cX8_deals 17 = .ok (.putfield 253, 3) := by decide +kernel
theorem dX8_deals_20 : decode cX8_deals 20 = .ok (.iconst 0, 1) := by decide +kernel
theorem dX8_deals_21 : decode cX8_deals 21 = .ok (.istore 4, 2) := by decide +kernel
theorem dX8_deals_23 : decode cX8_deals 23 = .ok (.iload 4, 2) := by decide +kernel
theorem dX8_deals_25 : decode cX8_deals 25 = .ok (.bipush 7, 2) := by decide +kernel
theorem dX8_deals_27 : decode cX8_deals 27 = .ok (.if_icmp .ge 23, 3) := by decide +kernel
theorem dX8_deals_30 : decode cX8_deals 30 = .ok (.aload_n 0, 1) := by decide +kernel
theorem dX8_deals_31 : decode cX8_deals 31 = .ok (.getfield 88, 3) := by decide +kernel
theorem dX8_deals_34 : decode cX8_deals 34 = .ok (.iload 4, 2) := by decide +kernel
theorem dX8_deals_36 : decode cX8_deals 36 = .ok (.aload_n 0, 1) := by decide +kernel
theorem dX8_deals_37 : decode cX8_deals 37 = .ok (.getfield 85, 3) := by decide +kernel
theorem dX8_deals_40 : decode cX8_deals 40 = .ok (.iload 4, 2) := by decide +kernel
theorem dX8_deals_42 : decode cX8_deals 42 = .ok (.iaload, 1) := by decide +kernel
theorem dX8_deals_43 : decode cX8_deals 43 = .ok (.iastore, 1) := by decide +kernel
theorem dX8_deals_44 : decode cX8_deals 44 = .ok (.iinc 4 1, 3) := by decide +kernel
theorem dX8_deals_47 : decode cX8_deals 47 = .ok (.goto (-24), 3) := by decide +kernel
theorem dX8_deals_50 : decode cX8_deals 50 = .ok (.return_, 1) := by decide +kernel
theorem dX8_deals_51 : decode cX8_deals 51 = .ok (.iconst 0, 1) := by decide +kernel
theorem dX8_deals_52 : decode cX8_deals 52 = .ok (.istore 4, 2) := by decide +kernel
theorem dX8_deals_54 : decode cX8_deals 54 = .ok (.iload 4, 2) := by decide +kernel
theorem dX8_deals_56 : decode cX8_deals 56 = .ok (.aload_n 0, 1) := by decide +kernel
theorem dX8_deals_57 : decode cX8_deals 57 = .ok (.getfield 94, 3) := by decide +kernel
theorem dX8_deals_60 : decode cX8_deals 60 = .ok (.if_icmp .ge 55, 3) := by decide +kernel
theorem dX8_deals_63 : decode cX8_deals 63 = .ok (.iload_n 2, 1) := by decide +kernel
theorem dX8_deals_64 : decode cX8_deals 64 = .ok (.iload 4, 2) := by decide +kernel
theorem dX8_deals_66 : decode cX8_deals 66 = .ok (.invokestatic 203, 3) := by decide +kernel
theorem dX8_deals_69 : decode cX8_deals 69 = .ok (.ifCond .ne 40, 3) := by decide +kernel
theorem dX8_deals_72 : decode cX8_deals 72 = .ok (.aload_n 0, 1) := by decide +kernel
theorem dX8_deals_73 : decode cX8_deals 73 = .ok (.iload 4, 2) := by decide +kernel
theorem dX8_deals_75 : decode cX8_deals 75 = .ok (.iload_n 1, 1) := by decide +kernel
theorem dX8_deals_76 : decode cX8_deals 76 = .ok (.invokevirtual 206, 3) := by decide +kernel
theorem dX8_deals_79 : decode cX8_deals 79 = .ok (.ifCond .ne 6, 3) := by decide +kernel
theorem dX8_deals_82 : decode cX8_deals 82 = .ok (.goto 27, 3) := by decide +kernel
theorem dX8_deals_85 : decode cX8_deals 85 = .ok (.aload_n 0, 1) := by decide +kernel
theorem dX8_deals_86 : decode cX8_deals 86 = .ok (.getfield 85, 3) := by decide +kernel
theorem dX8_deals_89 : decode cX8_deals 89 = .ok (.iload_n 1, 1) := by decide +kernel
theorem dX8_deals_90 : decode cX8_deals 90 = .ok (.iload 4, 2) := by decide +kernel
theorem dX8_deals_92 : decode cX8_deals 92 = .ok (.iastore, 1) := by decide +kernel
theorem dX8_deals_93 : decode cX8_deals 93 = .ok (.aload_n 0, 1) := by decide +kernel
theorem dX8_deals_94 : decode cX8_deals 94 = .ok (.iload_n 1, 1) := by decide +kernel
theorem dX8_deals_95 : decode cX8_deals 95 = .ok (.iconst 1, 1) := by decide +kernel
theorem dX8_deals_96 : decode cX8_deals 96 = .ok (.iadd, 1) := by decide +kernel
theorem dX8_deals_97 : decode cX8_deals 97 = .ok (.iload_n 2, 1) := by decide +kernel
theorem dX8_deals_98 : decode cX8_deals 98 = .ok (.iconst 1, 1) := by decide +kernel
theorem dX8_deals_99 : decode cX8_deals 99 = .ok (.iload 4, 2) := by decide +kernel
theorem dX8_deals_101 : decode cX8_deals 101 = .ok (.ishl, 1) := by decide +kernel
theorem dX8_deals_102 : decode cX8_deals 102 = .ok (.ior, 1) := by decide +kernel
theorem dX8_deals_103 : decode cX8_deals 103 = .ok (.iload_n 3, 1) := by decide +kernel
theorem dX8_deals_104 : decode cX8_deals 104 = .ok (.iconst 1, 1) := by decide +kernel
theorem dX8_deals_105 : decode cX8_deals 105 = .ok (.iadd, 1) := by decide +kernel
theorem dX8_deals_106 : decode cX8_deals 106 = .ok (.invokevirtual 269, 3) := by decide +kernel
theorem dX8_deals_109 : decode cX8_deals 109 = .ok (.iinc 4 1, 3) := by decide +kernel
theorem dX8_deals_112 : decode cX8_deals 112 = .ok (.goto (-58), 3) := by decide +kernel
theorem dX8_deals_115 : decode cX8_deals 115 = .ok (.aload_n 0, 1) := by decide +kernel
theorem dX8_deals_116 : decode cX8_deals 116 = .ok (.getfield 85, 3) := by decide +kernel
theorem dX8_deals_119 : decode cX8_deals 119 = .ok (.iload_n 1, 1) := by decide +kernel
theorem dX8_deals_120 : decode cX8_deals 120 = .ok (.bipush 7, 2) := by decide +kernel
theorem dX8_deals_122 : decode cX8_deals 122 = .ok (.iastore, 1) := by decide +kernel
theorem dX8_deals_123 : decode cX8_deals 123 = .ok (.aload_n 0, 1) := by decide +kernel
theorem dX8_deals_124 : decode cX8_deals 124 = .ok (.iload_n 1, 1) := by decide +kernel
theorem dX8_deals_125 : decode cX8_deals 125 = .ok (.iconst 1, 1) := by decide +kernel
theorem dX8_deals_126 : decode cX8_deals 126 = .ok (.iadd, 1) := by decide +kernel
theorem dX8_deals_127 : decode cX8_deals 127 = .ok (.iload_n 2, 1) := by decide +kernel
theorem dX8_deals_128 : decode cX8_deals 128 = .ok (.iload_n 3, 1) := by decide +kernel
theorem dX8_deals_129 : decode cX8_deals 129 = .ok (.invokevirtual 269, 3) := by decide +kernel
theorem dX8_deals_132 : decode cX8_deals 132 = .ok (.return_, 1) := by decide +kernel
theorem dX8_week_0 : decode cX8_week 0 = .ok (.iload_n 1, 1) := by decide +kernel
theorem dX8_week_1 : decode cX8_week 1 = .ok (.iconst (-1), 1) := by decide +kernel
theorem dX8_week_2 : decode cX8_week 2 = .ok (.bipush 6, 2) := by decide +kernel
theorem dX8_week_4 : decode cX8_week 4 = .ok (.invokestatic 98, 3) := by decide +kernel
theorem dX8_week_7 : decode cX8_week 7 = .ok (.ifCond .ne 5, 3) := by decide +kernel
theorem dX8_week_10 : decode cX8_week 10 = .ok (.iconst (-1), 1) := by decide +kernel
theorem dX8_week_11 : decode cX8_week 11 = .ok (.ireturn, 1) := by decide +kernel
theorem dX8_week_12 : decode cX8_week 12 = .ok (.aload_n 0, 1) := by decide +kernel
theorem dX8_week_13 : decode cX8_week 13 = .ok (.iconst (-1), 1) := by decide +kernel
theorem dX8_week_14 : decode cX8_week 14 = .ok (.putfield 253, 3) := by decide +kernel
theorem dX8_week_17 : decode cX8_week 17 = .ok (.aload_n 0, 1) := by decide +kernel
theorem dX8_week_18 : decode cX8_week 18 = .ok (.iconst 0, 1) := by decide +kernel
theorem dX8_week_19 : decode cX8_week 19 = .ok (.iconst 0, 1) := by decide +kernel
theorem dX8_week_20 : decode cX8_week 20 = .ok (.iconst 0, 1) := by decide +kernel
theorem dX8_week_21 : decode cX8_week 21 = .ok (.invokevirtual 269, 3) := by decide +kernel
theorem dX8_week_24 : decode cX8_week 24 = .ok (.iload_n 1, 1) := by decide +kernel
theorem dX8_week_25 : decode cX8_week 25 = .ok (.iconst (-1), 1) := by decide +kernel
theorem dX8_week_26 : decode cX8_week 26 = .ok (.if_icmp .ne 10, 3) := by decide +kernel
theorem dX8_week_29 : decode cX8_week 29 = .ok (.aload_n 0, 1) := by decide +kernel
theorem dX8_week_30 : decode cX8_week 30 = .ok (.getfield 253, 3) := by decide +kernel
theorem dX8_week_33 : decode cX8_week 33 = .ok (.goto 9, 3) := by decide +kernel
theorem dX8_week_36 : decode cX8_week 36 = .ok (.aload_n 0, 1) := by decide +kernel
theorem dX8_week_37 : decode cX8_week 37 = .ok (.getfield 88, 3) := by decide +kernel
theorem dX8_week_40 : decode cX8_week 40 = .ok (.iload_n 1, 1) := by decide +kernel
theorem dX8_week_41 : decode cX8_week 41 = .ok (.iaload, 1) := by decide +kernel
theorem dX8_week_42 : decode cX8_week 42 = .ok (.ireturn, 1) := by decide +kernel
theorem dX8_slow_0 : decode cX8_slow 0 = .ok (.aload_n 0, 1) := by decide +kernel
theorem dX8_slow_1 : decode cX8_slow 1 = .ok (.getfield 9, 3) := by decide +kernel
theorem dX8_slow_4 : decode cX8_slow 4 = .ok (.bipush 21, 2) := by decide +kernel
theorem dX8_slow_6 : decode cX8_slow 6 = .ok (.iload_n 1, 1) := by decide +kernel
theorem dX8_slow_7 : decode cX8_slow 7 = .ok (.iadd, 1) := by decide +kernel
theorem dX8_slow_8 : decode cX8_slow 8 = .ok (.iaload, 1) := by decide +kernel
theorem dX8_slow_9 : decode cX8_slow 9 = .ok (.ireturn, 1) := by decide +kernel
theorem dX8_goOut_0 : decode cX8_goOut 0 = .ok (.iload_n 1, 1) := by decide +kernel
theorem dX8_goOut_1 : decode cX8_goOut 1 = .ok (.iconst 1, 1) := by decide +kernel
theorem dX8_goOut_2 : decode cX8_goOut 2 = .ok (.iload_n 2, 1) := by decide +kernel
theorem dX8_goOut_3 : decode cX8_goOut 3 = .ok (.ishl, 1) := by decide +kernel
theorem dX8_goOut_4 : decode cX8_goOut 4 = .ok (.iconst (-1), 1) := by decide +kernel
theorem dX8_goOut_5 : decode cX8_goOut 5 = .ok (.ixor, 1) := by decide +kernel
theorem dX8_goOut_6 : decode cX8_goOut 6 = .ok (.iand, 1) := by decide +kernel
theorem dX8_goOut_7 : decode cX8_goOut 7 = .ok (.iconst 1, 1) := by decide +kernel
theorem dX8_goOut_8 : decode cX8_goOut 8 = .ok (.iload_n 3, 1) := by decide +kernel
theorem dX8_goOut_9 : decode cX8_goOut 9 = .ok (.ishl, 1) := by decide +kernel
theorem dX8_goOut_10 : decode cX8_goOut 10 = .ok (.iconst (-1), 1) := by decide +kernel
theorem dX8_goOut_11 : decode cX8_goOut 11 = .ok (.ixor, 1) := by decide +kernel
theorem dX8_goOut_12 : decode cX8_goOut 12 = .ok (.iand, 1) := by decide +kernel
theorem dX8_goOut_13 : decode cX8_goOut 13 = .ok (.istore 4, 2) := by decide +kernel
theorem dX8_goOut_15 : decode cX8_goOut 15 = .ok (.aload_n 0, 1) := by decide +kernel
theorem dX8_goOut_16 : decode cX8_goOut 16 = .ok (.iload_n 2, 1) := by decide +kernel
theorem dX8_goOut_17 : decode cX8_goOut 17 = .ok (.invokevirtual 272, 3) := by decide +kernel
theorem dX8_goOut_20 : decode cX8_goOut 20 = .ok (.aload_n 0, 1) := by decide +kernel
theorem dX8_goOut_21 : decode cX8_goOut 21 = .ok (.iload_n 3, 1) := by decide +kernel
theorem dX8_goOut_22 : decode cX8_goOut 22 = .ok (.invokevirtual 272, 3) := by decide +kernel
theorem dX8_goOut_25 : decode cX8_goOut 25 = .ok (.invokestatic 225, 3) := by decide +kernel
theorem dX8_goOut_28 : decode cX8_goOut 28 = .ok (.istore 5, 2) := by decide +kernel
theorem dX8_goOut_30 : decode cX8_goOut 30 = .ok (.iload 4, 2) := by decide +kernel
theorem dX8_goOut_32 : decode cX8_goOut 32 = .ok (.ifCond .ne 6, 3) := by decide +kernel
theorem dX8_goOut_35 : decode cX8_goOut 35 = .ok (.iload 5, 2) := by decide +kernel
theorem dX8_goOut_37 : decode cX8_goOut 37 = .ok (.ireturn, 1) := by decide +kernel
theorem dX8_goOut_38 : decode cX8_goOut 38 = .ok (.sipush 9999, 3) := by decide +kernel
theorem dX8_goOut_41 : decode cX8_goOut 41 = .ok (.istore 6, 2) := by decide +kernel
theorem dX8_goOut_43 : decode cX8_goOut 43 = .ok (.iconst 0, 1) := by decide +kernel
theorem dX8_goOut_44 : decode cX8_goOut 44 = .ok (.istore 7, 2) := by decide +kernel
theorem dX8_goOut_46 : decode cX8_goOut 46 = .ok (.iload 7, 2) := by decide +kernel
theorem dX8_goOut_48 : decode cX8_goOut 48 = .ok (.aload_n 0, 1) := by decide +kernel
theorem dX8_goOut_49 : decode cX8_goOut 49 = .ok (.getfield 94, 3) := by decide +kernel
theorem dX8_goOut_52 : decode cX8_goOut 52 = .ok (.if_icmp .ge 45, 3) := by decide +kernel
theorem dX8_goOut_55 : decode cX8_goOut 55 = .ok (.iload 4, 2) := by decide +kernel
theorem dX8_goOut_57 : decode cX8_goOut 57 = .ok (.iload 7, 2) := by decide +kernel
theorem dX8_goOut_59 : decode cX8_goOut 59 = .ok (.invokestatic 203, 3) := by decide +kernel
theorem dX8_goOut_62 : decode cX8_goOut 62 = .ok (.ifCond .ne 29, 3) := by decide +kernel
theorem dX8_goOut_65 : decode cX8_goOut 65 = .ok (.iload 6, 2) := by decide +kernel
theorem dX8_goOut_67 : decode cX8_goOut 67 = .ok (.aload_n 0, 1) := by decide +kernel
theorem dX8_goOut_68 : decode cX8_goOut 68 = .ok (.iload 7, 2) := by decide +kernel
theorem dX8_goOut_70 : decode cX8_goOut 70 = .ok (.invokevirtual 272, 3) := by decide +kernel
theorem dX8_goOut_73 : decode cX8_goOut 73 = .ok (.aload_n 0, 1) := by decide +kernel
theorem dX8_goOut_74 : decode cX8_goOut 74 = .ok (.getfield 91, 3) := by decide +kernel
theorem dX8_goOut_77 : decode cX8_goOut 77 = .ok (.iload 4, 2) := by decide +kernel
theorem dX8_goOut_79 : decode cX8_goOut 79 = .ok (.iconst 1, 1) := by decide +kernel
theorem dX8_goOut_80 : decode cX8_goOut 80 = .ok (.iload 7, 2) := by decide +kernel
theorem dX8_goOut_82 : decode cX8_goOut 82 = .ok (.ishl, 1) := by decide +kernel
theorem dX8_goOut_83 : decode cX8_goOut 83 = .ok (.ior, 1) := by decide +kernel
theorem dX8_goOut_84 : decode cX8_goOut 84 = .ok (.iaload, 1) := by decide +kernel
theorem dX8_goOut_85 : decode cX8_goOut 85 = .ok (.iadd, 1) := by decide +kernel
theorem dX8_goOut_86 : decode cX8_goOut 86 = .ok (.invokestatic 220, 3) := by decide +kernel
theorem dX8_goOut_89 : decode cX8_goOut 89 = .ok (.istore 6, 2) := by decide +kernel
theorem dX8_goOut_91 : decode cX8_goOut 91 = .ok (.iinc 7 1, 3) := by decide +kernel
theorem dX8_goOut_94 : decode cX8_goOut 94 = .ok (.goto (-48), 3) := by decide +kernel
theorem dX8_goOut_97 : decode cX8_goOut 97 = .ok (.iload 5, 2) := by decide +kernel
theorem dX8_goOut_99 : decode cX8_goOut 99 = .ok (.iload 6, 2) := by decide +kernel
theorem dX8_goOut_101 : decode cX8_goOut 101 = .ok (.iadd, 1) := by decide +kernel
theorem dX8_goOut_102 : decode cX8_goOut 102 = .ok (.ireturn, 1) := by decide +kernel
theorem dX8_burns_0 : decode cX8_burns 0 = .ok (.iconst 1, 1) := by decide +kernel
theorem dX8_burns_1 : decode cX8_burns 1 = .ok (.istore_n 1, 1) := by decide +kernel
theorem dX8_burns_2 : decode cX8_burns 2 = .ok (.iload_n 1, 1) := by decide +kernel
theorem dX8_burns_3 : decode cX8_burns 3 = .ok (.iconst 1, 1) := by decide +kernel
theorem dX8_burns_4 : decode cX8_burns 4 = .ok (.aload_n 0, 1) := by decide +kernel
theorem dX8_burns_5 : decode cX8_burns 5 = .ok (.getfield 94, 3) := by decide +kernel
theorem dX8_burns_8 : decode cX8_burns 8 = .ok (.ishl, 1) := by decide +kernel
theorem dX8_burns_9 : decode cX8_burns 9 = .ok (.if_icmp .ge 18, 3) := by decide +kernel
theorem dX8_burns_12 : decode cX8_burns 12 = .ok (.aload_n 0, 1) := by decide +kernel
theorem dX8_burns_13 : decode cX8_burns 13 = .ok (.getfield 91, 3) := by decide +kernel
theorem dX8_burns_16 : decode cX8_burns 16 = .ok (.iload_n 1, 1) := by decide +kernel
theorem dX8_burns_17 : decode cX8_burns 17 = .ok (.sipush 9999, 3) := by decide +kernel
theorem dX8_burns_20 : decode cX8_burns 20 = .ok (.iastore, 1) := by decide +kernel
theorem dX8_burns_21 : decode cX8_burns 21 = .ok (.iinc 1 1, 3) := by decide +kernel
theorem dX8_burns_24 : decode cX8_burns 24 = .ok (.goto (-22), 3) := by decide +kernel
theorem dX8_burns_27 : decode cX8_burns 27 = .ok (.iconst 1, 1) := by decide +kernel
theorem dX8_burns_28 : decode cX8_burns 28 = .ok (.istore_n 1, 1) := by decide +kernel
theorem dX8_burns_29 : decode cX8_burns 29 = .ok (.iload_n 1, 1) := by decide +kernel
theorem dX8_burns_30 : decode cX8_burns 30 = .ok (.ifCond .eq 117, 3) := by decide +kernel
theorem dX8_burns_33 : decode cX8_burns 33 = .ok (.iconst 0, 1) := by decide +kernel
theorem dX8_burns_34 : decode cX8_burns 34 = .ok (.istore_n 1, 1) := by decide +kernel
theorem dX8_burns_35 : decode cX8_burns 35 = .ok (.iconst 1, 1) := by decide +kernel
theorem dX8_burns_36 : decode cX8_burns 36 = .ok (.istore_n 2, 1) := by decide +kernel
theorem dX8_burns_37 : decode cX8_burns 37 = .ok (.iload_n 2, 1) := by decide +kernel
theorem dX8_burns_38 : decode cX8_burns 38 = .ok (.iconst 1, 1) := by decide +kernel
theorem dX8_burns_39 : decode cX8_burns 39 = .ok (.aload_n 0, 1) := by decide +kernel
theorem dX8_burns_40 : decode cX8_burns 40 = .ok (.getfield 94, 3) := by decide +kernel
theorem dX8_burns_43 : decode cX8_burns 43 = .ok (.ishl, 1) := by decide +kernel
theorem dX8_burns_44 : decode cX8_burns 44 = .ok (.if_icmp .ge 100, 3) := by decide +kernel
theorem dX8_burns_47 : decode cX8_burns 47 = .ok (.iconst 0, 1) := by decide +kernel
theorem dX8_burns_48 : decode cX8_burns 48 = .ok (.istore_n 3, 1) := by decide +kernel
theorem dX8_burns_49 : decode cX8_burns 49 = .ok (.iload_n 3, 1) := by decide +kernel
theorem dX8_burns_50 : decode cX8_burns 50 = .ok (.aload_n 0, 1) := by decide +kernel
theorem dX8_burns_51 : decode cX8_burns 51 = .ok (.getfield 94, 3) := by decide +kernel
theorem dX8_burns_54 : decode cX8_burns 54 = .ok (.if_icmp .ge 84, 3) := by decide +kernel
theorem dX8_burns_57 : decode cX8_burns 57 = .ok (.iload_n 3, 1) := by decide +kernel
theorem dX8_burns_58 : decode cX8_burns 58 = .ok (.istore 4, 2) := by decide +kernel
theorem dX8_burns_60 : decode cX8_burns 60 = .ok (.iload 4, 2) := by decide +kernel
theorem dX8_burns_62 : decode cX8_burns 62 = .ok (.aload_n 0, 1) := by decide +kernel
theorem dX8_burns_63 : decode cX8_burns 63 = .ok (.getfield 94, 3) := by decide +kernel
theorem dX8_burns_66 : decode cX8_burns 66 = .ok (.if_icmp .ge 66, 3) := by decide +kernel
theorem dX8_burns_69 : decode cX8_burns 69 = .ok (.iload_n 2, 1) := by decide +kernel
theorem dX8_burns_70 : decode cX8_burns 70 = .ok (.iload_n 3, 1) := by decide +kernel
theorem dX8_burns_71 : decode cX8_burns 71 = .ok (.invokestatic 203, 3) := by decide +kernel
theorem dX8_burns_74 : decode cX8_burns 74 = .ok (.ifCond .eq 23, 3) := by decide +kernel
theorem dX8_burns_77 : decode cX8_burns 77 = .ok (.iload_n 2, 1) := by decide +kernel
theorem dX8_burns_78 : decode cX8_burns 78 = .ok (.iload 4, 2) := by decide +kernel
theorem dX8_burns_80 : decode cX8_burns 80 = .ok (.invokestatic 203, 3) := by decide +kernel
theorem dX8_burns_83 : decode cX8_burns 83 = .ok (.ifCond .eq 14, 3) := by decide +kernel
theorem dX8_burns_86 : decode cX8_burns 86 = .ok (.aload_n 0, 1) := by decide +kernel
theorem dX8_burns_87 : decode cX8_burns 87 = .ok (.iload_n 2, 1) := by decide +kernel
theorem dX8_burns_88 : decode cX8_burns 88 = .ok (.iload_n 3, 1) := by decide +kernel
theorem dX8_burns_89 : decode cX8_burns 89 = .ok (.iload 4, 2) := by decide +kernel
theorem dX8_burns_91 : decode cX8_burns 91 = .ok (.invokevirtual 275, 3) := by decide +kernel
theorem dX8_burns_94 : decode cX8_burns 94 = .ok (.goto 6, 3) := by decide +kernel
theorem dX8_burns_97 : decode cX8_burns 97 = .ok (.sipush 9999, 3) := by decide +kernel
theorem dX8_burns_100 : decode cX8_burns 100 = .ok (.istore 5, 2) := by decide +kernel
theorem dX8_burns_102 : decode cX8_burns 102 = .ok (.iload 5, 2) := by decide +kernel
theorem dX8_burns_104 : decode cX8_burns 104 = .ok (.aload_n 0, 1) := by decide +kernel
theorem dX8_burns_105 : decode cX8_burns 105 = .ok (.getfield 91, 3) := by decide +kernel
theorem dX8_burns_108 : decode cX8_burns 108 = .ok (.iload_n 2, 1) := by decide +kernel
theorem dX8_burns_109 : decode cX8_burns 109 = .ok (.iaload, 1) := by decide +kernel
theorem dX8_burns_110 : decode cX8_burns 110 = .ok (.if_icmp .lt 6, 3) := by decide +kernel
theorem dX8_burns_113 : decode cX8_burns 113 = .ok (.goto 13, 3) := by decide +kernel
theorem dX8_burns_116 : decode cX8_burns 116 = .ok (.aload_n 0, 1) := by decide +kernel
theorem dX8_burns_117 : decode cX8_burns 117 = .ok (.getfield 91, 3) := by decide +kernel
theorem dX8_burns_120 : decode cX8_burns 120 = .ok (.iload_n 2, 1) := by decide +kernel
theorem dX8_burns_121 : decode cX8_burns 121 = .ok (.iload 5, 2) := by decide +kernel
theorem dX8_burns_123 : decode cX8_burns 123 = .ok (.iastore, 1) := by decide +kernel
theorem dX8_burns_124 : decode cX8_burns 124 = .ok (.iconst 1, 1) := by decide +kernel
theorem dX8_burns_125 : decode cX8_burns 125 = .ok (.istore_n 1, 1) := by decide +kernel
theorem dX8_burns_126 : decode cX8_burns 126 = .ok (.iinc 4 1, 3) := by decide +kernel
theorem dX8_burns_129 : decode cX8_burns 129 = .ok (.goto (-69), 3) := by decide +kernel
theorem dX8_burns_132 : decode cX8_burns 132 = .ok (.iinc 3 1, 3) := by decide +kernel
theorem dX8_burns_135 : decode cX8_burns 135 = .ok (.goto (-86), 3) := by decide +kernel
theorem dX8_burns_138 : decode cX8_burns 138 = .ok (.iinc 2 1, 3) := by decide +kernel
theorem dX8_burns_141 : decode cX8_burns 141 = .ok (.goto (-104), 3) := by decide +kernel
theorem dX8_burns_144 : decode cX8_burns 144 = .ok (.goto (-115), 3) := by decide +kernel
theorem dX8_burns_147 : decode cX8_burns 147 = .ok (.return_, 1) := by decide +kernel
theorem dX8_fire_0 : decode cX8_fire 0 = .ok (.iload_n 1, 1) := by decide +kernel
theorem dX8_fire_1 : decode cX8_fire 1 = .ok (.iconst 0, 1) := by decide +kernel
theorem dX8_fire_2 : decode cX8_fire 2 = .ok (.iconst 1, 1) := by decide +kernel
theorem dX8_fire_3 : decode cX8_fire 3 = .ok (.invokestatic 98, 3) := by decide +kernel
theorem dX8_fire_6 : decode cX8_fire 6 = .ok (.ifCond .ne 5, 3) := by decide +kernel
theorem dX8_fire_9 : decode cX8_fire 9 = .ok (.iconst (-1), 1) := by decide +kernel
theorem dX8_fire_10 : decode cX8_fire 10 = .ok (.ireturn, 1) := by decide +kernel
theorem dX8_fire_11 : decode cX8_fire 11 = .ok (.aload_n 0, 1) := by decide +kernel
theorem dX8_fire_12 : decode cX8_fire 12 = .ok (.getfield 94, 3) := by decide +kernel
theorem dX8_fire_15 : decode cX8_fire 15 = .ok (.ifCond .ne 5, 3) := by decide +kernel
theorem dX8_fire_18 : decode cX8_fire 18 = .ok (.iconst 0, 1) := by decide +kernel
theorem dX8_fire_19 : decode cX8_fire 19 = .ok (.ireturn, 1) := by decide +kernel
theorem dX8_fire_20 : decode cX8_fire 20 = .ok (.aload_n 0, 1) := by decide +kernel
theorem dX8_fire_21 : decode cX8_fire 21 = .ok (.invokevirtual 278, 3) := by decide +kernel
theorem dX8_fire_24 : decode cX8_fire 24 = .ok (.iconst 1, 1) := by decide +kernel
theorem dX8_fire_25 : decode cX8_fire 25 = .ok (.aload_n 0, 1) := by decide +kernel
theorem dX8_fire_26 : decode cX8_fire 26 = .ok (.getfield 94, 3) := by decide +kernel
theorem dX8_fire_29 : decode cX8_fire 29 = .ok (.ishl, 1) := by decide +kernel
theorem dX8_fire_30 : decode cX8_fire 30 = .ok (.iconst 1, 1) := by decide +kernel
theorem dX8_fire_31 : decode cX8_fire 31 = .ok (.isub, 1) := by decide +kernel
theorem dX8_fire_32 : decode cX8_fire 32 = .ok (.istore_n 2, 1) := by decide +kernel
theorem dX8_fire_33 : decode cX8_fire 33 = .ok (.iload_n 1, 1) := by decide +kernel
theorem dX8_fire_34 : decode cX8_fire 34 = .ok (.ifCond .ne 10, 3) := by decide +kernel
theorem dX8_fire_37 : decode cX8_fire 37 = .ok (.aload_n 0, 1) := by decide +kernel
theorem dX8_fire_38 : decode cX8_fire 38 = .ok (.getfield 91, 3) := by decide +kernel
theorem dX8_fire_41 : decode cX8_fire 41 = .ok (.iload_n 2, 1) := by decide +kernel
theorem dX8_fire_42 : decode cX8_fire 42 = .ok (.iaload, 1) := by decide +kernel
theorem dX8_fire_43 : decode cX8_fire 43 = .ok (.ireturn, 1) := by decide +kernel
theorem dX8_fire_44 : decode cX8_fire 44 = .ok (.iconst 0, 1) := by decide +kernel
theorem dX8_fire_45 : decode cX8_fire 45 = .ok (.istore_n 3, 1) := by decide +kernel
theorem dX8_fire_46 : decode cX8_fire 46 = .ok (.iload_n 3, 1) := by decide +kernel
theorem dX8_fire_47 : decode cX8_fire 47 = .ok (.aload_n 0, 1) := by decide +kernel
theorem dX8_fire_48 : decode cX8_fire 48 = .ok (.getfield 94, 3) := by decide +kernel
theorem dX8_fire_51 : decode cX8_fire 51 = .ok (.if_icmp .ge 27, 3) := by decide +kernel
theorem dX8_fire_54 : decode cX8_fire 54 = .ok (.aload_n 0, 1) := by decide +kernel
theorem dX8_fire_55 : decode cX8_fire 55 = .ok (.iload_n 2, 1) := by decide +kernel
theorem dX8_fire_56 : decode cX8_fire 56 = .ok (.iload_n 3, 1) := by decide +kernel
theorem dX8_fire_57 : decode cX8_fire 57 = .ok (.iload_n 3, 1) := by decide +kernel
theorem dX8_fire_58 : decode cX8_fire 58 = .ok (.invokevirtual 275, 3) := by decide +kernel
theorem dX8_fire_61 : decode cX8_fire 61 = .ok (.aload_n 0, 1) := by decide +kernel
theorem dX8_fire_62 : decode cX8_fire 62 = .ok (.getfield 91, 3) := by decide +kernel
theorem dX8_fire_65 : decode cX8_fire 65 = .ok (.iload_n 2, 1) := by decide +kernel
theorem dX8_fire_66 : decode cX8_fire 66 = .ok (.iaload, 1) := by decide +kernel
theorem dX8_fire_67 : decode cX8_fire 67 = .ok (.if_icmp .ne 5, 3) := by decide +kernel
theorem dX8_fire_70 : decode cX8_fire 70 = .ok (.iconst 1, 1) := by decide +kernel
theorem dX8_fire_71 : decode cX8_fire 71 = .ok (.ireturn, 1) := by decide +kernel
theorem dX8_fire_72 : decode cX8_fire 72 = .ok (.iinc 3 1, 3) := by decide +kernel
theorem dX8_fire_75 : decode cX8_fire 75 = .ok (.goto (-29), 3) := by decide +kernel
theorem dX8_fire_78 : decode cX8_fire 78 = .ok (.iconst 2, 1) := by decide +kernel
theorem dX8_fire_79 : decode cX8_fire 79 = .ok (.ireturn, 1) := by decide +kernel
theorem dX8_noDebts_0 : decode cX8_noDebts 0 = .ok (.iload_n 1, 1) := by decide +kernel
theorem dX8_noDebts_1 : decode cX8_noDebts 1 = .ok (.ifCond .lt 23, 3) := by decide +kernel
theorem dX8_noDebts_4 : decode cX8_noDebts 4 = .ok (.iload_n 1, 1) := by decide +kernel
theorem dX8_noDebts_5 : decode cX8_noDebts 5 = .ok (.bipush 10, 2) := by decide +kernel
theorem dX8_noDebts_7 : decode cX8_noDebts 7 = .ok (.idiv, 1) := by decide +kernel
theorem dX8_noDebts_8 : decode cX8_noDebts 8 = .ok (.invokestatic 106, 3) := by decide +kernel
theorem dX8_noDebts_11 : decode cX8_noDebts 11 = .ok (.ifCond .eq 13, 3) := by decide +kernel
theorem dX8_noDebts_14 : decode cX8_noDebts 14 = .ok (.iload_n 1, 1) := by decide +kernel
theorem dX8_noDebts_15 : decode cX8_noDebts 15 = .ok (.bipush 10, 2) := by decide +kernel
theorem dX8_noDebts_17 : decode cX8_noDebts 17 = .ok (.irem, 1) := by decide +kernel
theorem dX8_noDebts_18 : decode cX8_noDebts 18 = .ok (.invokestatic 106, 3) := by decide +kernel
theorem dX8_noDebts_21 : decode cX8_noDebts 21 = .ok (.ifCond .ne 5, 3) := by decide +kernel
theorem dX8_noDebts_24 : decode cX8_noDebts 24 = .ok (.iconst (-1), 1) := by decide +kernel
theorem dX8_noDebts_25 : decode cX8_noDebts 25 = .ok (.ireturn, 1) := by decide +kernel
theorem dX8_noDebts_26 : decode cX8_noDebts 26 = .ok (.aload_n 0, 1) := by decide +kernel
theorem dX8_noDebts_27 : decode cX8_noDebts 27 = .ok (.iload_n 1, 1) := by decide +kernel
theorem dX8_noDebts_28 : decode cX8_noDebts 28 = .ok (.bipush 10, 2) := by decide +kernel
theorem dX8_noDebts_30 : decode cX8_noDebts 30 = .ok (.idiv, 1) := by decide +kernel
theorem dX8_noDebts_31 : decode cX8_noDebts 31 = .ok (.invokevirtual 237, 3) := by decide +kernel
theorem dX8_noDebts_34 : decode cX8_noDebts 34 = .ok (.istore_n 2, 1) := by decide +kernel
theorem dX8_noDebts_35 : decode cX8_noDebts 35 = .ok (.iload_n 2, 1) := by decide +kernel
theorem dX8_noDebts_36 : decode cX8_noDebts 36 = .ok (.ifCond .ge 7, 3) := by decide +kernel
theorem dX8_noDebts_39 : decode cX8_noDebts 39 = .ok (.iload_n 2, 1) := by decide +kernel
theorem dX8_noDebts_40 : decode cX8_noDebts 40 = .ok (.goto 11, 3) := by decide +kernel
theorem dX8_noDebts_43 : decode cX8_noDebts 43 = .ok (.aload_n 0, 1) := by decide +kernel
theorem dX8_noDebts_44 : decode cX8_noDebts 44 = .ok (.iload_n 1, 1) := by decide +kernel
theorem dX8_noDebts_45 : decode cX8_noDebts 45 = .ok (.bipush 10, 2) := by decide +kernel
theorem dX8_noDebts_47 : decode cX8_noDebts 47 = .ok (.irem, 1) := by decide +kernel
theorem dX8_noDebts_48 : decode cX8_noDebts 48 = .ok (.invokevirtual 237, 3) := by decide +kernel
theorem dX8_noDebts_51 : decode cX8_noDebts 51 = .ok (.ireturn, 1) := by decide +kernel
theorem dX8_unlike_0 : decode cX8_unlike 0 = .ok (.iload_n 1, 1) := by decide +kernel
theorem dX8_unlike_1 : decode cX8_unlike 1 = .ok (.bipush 10, 2) := by decide +kernel
theorem dX8_unlike_3 : decode cX8_unlike 3 = .ok (.idiv, 1) := by decide +kernel
theorem dX8_unlike_4 : decode cX8_unlike 4 = .ok (.istore_n 3, 1) := by decide +kernel
theorem dX8_unlike_5 : decode cX8_unlike 5 = .ok (.iload_n 1, 1) := by decide +kernel
theorem dX8_unlike_6 : decode cX8_unlike 6 = .ok (.bipush 10, 2) := by decide +kernel
theorem dX8_unlike_8 : decode cX8_unlike 8 = .ok (.irem, 1) := by decide +kernel
theorem dX8_unlike_9 : decode cX8_unlike 9 = .ok (.istore 4, 2) := by decide +kernel
theorem dX8_unlike_11 : decode cX8_unlike 11 = .ok (.aload_n 0, 1) := by decide +kernel
theorem dX8_unlike_12 : decode cX8_unlike 12 = .ok (.aload_n 0, 1) := by decide +kernel
theorem dX8_unlike_13 : decode cX8_unlike 13 = .ok (.getfield 79, 3) := by decide +kernel
theorem dX8_unlike_16 : decode cX8_unlike 16 = .ok (.invokevirtual 240, 3) := by decide +kernel
theorem dX8_unlike_19 : decode cX8_unlike 19 = .ok (.aload_n 0, 1) := by decide +kernel
theorem dX8_unlike_20 : decode cX8_unlike 20 = .ok (.iload_n 3, 1) := by decide +kernel
theorem dX8_unlike_21 : decode cX8_unlike 21 = .ok (.invokevirtual 231, 3) := by decide +kernel
theorem dX8_unlike_24 : decode cX8_unlike 24 = .ok (.istore 5, 2) := by decide +kernel
theorem dX8_unlike_26 : decode cX8_unlike 26 = .ok (.bipush (-2), 2) := by decide +kernel
theorem dX8_unlike_28 : decode cX8_unlike 28 = .ok (.istore 6, 2) := by decide +kernel
theorem dX8_unlike_30 : decode cX8_unlike 30 = .ok (.iconst 0, 1) := by decide +kernel
theorem dX8_unlike_31 : decode cX8_unlike 31 = .ok (.istore 7, 2) := by decide +kernel
theorem dX8_unlike_33 : decode cX8_unlike 33 = .ok (.iload 7, 2) := by decide +kernel
theorem dX8_unlike_35 : decode cX8_unlike 35 = .ok (.aload_n 0, 1) := by decide +kernel
theorem dX8_unlike_36 : decode cX8_unlike 36 = .ok (.getfield 72, 3) := by decide +kernel
theorem dX8_unlike_39 : decode cX8_unlike 39 = .ok (.iload 4, 2) := by decide +kernel
theorem dX8_unlike_41 : decode cX8_unlike 41 = .ok (.iaload, 1) := by decide +kernel
theorem dX8_unlike_42 : decode cX8_unlike 42 = .ok (.if_icmp .ge 73, 3) := by decide +kernel
theorem dX8_unlike_45 : decode cX8_unlike 45 = .ok (.iload 6, 2) := by decide +kernel
theorem dX8_unlike_47 : decode cX8_unlike 47 = .ok (.bipush (-2), 2) := by decide +kernel
theorem dX8_unlike_49 : decode cX8_unlike 49 = .ok (.if_icmp .ne 66, 3) := by decide +kernel
theorem dX8_unlike_52 : decode cX8_unlike 52 = .ok (.iload 7, 2) := by decide +kernel
theorem dX8_unlike_54 : decode cX8_unlike 54 = .ok (.ifCond .le 24, 3) := by decide +kernel
theorem dX8_unlike_57 : decode cX8_unlike 57 = .ok (.iload 7, 2) := by decide +kernel
theorem dX8_unlike_59 : decode cX8_unlike 59 = .ok (.iload 5, 2) := by decide +kernel
theorem dX8_unlike_61 : decode cX8_unlike 61 = .ok (.if_icmp .gt 17, 3) := by decide +kernel
theorem dX8_unlike_64 : decode cX8_unlike 64 = .ok (.aload_n 0, 1) := by decide +kernel
theorem dX8_unlike_65 : decode cX8_unlike 65 = .ok (.aload_n 0, 1) := by decide +kernel
theorem dX8_unlike_66 : decode cX8_unlike 66 = .ok (.iload_n 3, 1) := by decide +kernel
theorem dX8_unlike_67 : decode cX8_unlike 67 = .ok (.iload 7, 2) := by decide +kernel
theorem dX8_unlike_69 : decode cX8_unlike 69 = .ok (.iconst 1, 1) := by decide +kernel
theorem dX8_unlike_70 : decode cX8_unlike 70 = .ok (.isub, 1) := by decide +kernel
theorem dX8_unlike_71 : decode cX8_unlike 71 = .ok (.invokevirtual 112, 3) := by decide +kernel
theorem dX8_unlike_74 : decode cX8_unlike 74 = .ok (.invokevirtual 234, 3) := by decide +kernel
theorem dX8_unlike_77 : decode cX8_unlike 77 = .ok (.pop, 1) := by decide +kernel
theorem dX8_unlike_78 : decode cX8_unlike 78 = .ok (.iload 7, 2) := by decide +kernel
theorem dX8_unlike_80 : decode cX8_unlike 80 = .ok (.iload 5, 2) := by decide +kernel
theorem dX8_unlike_82 : decode cX8_unlike 82 = .ok (.if_icmp .gt 23, 3) := by decide +kernel
theorem dX8_unlike_85 : decode cX8_unlike 85 = .ok (.aload_n 0, 1) := by decide +kernel
theorem dX8_unlike_86 : decode cX8_unlike 86 = .ok (.getfield 9, 3) := by decide +kernel
theorem dX8_unlike_89 : decode cX8_unlike 89 = .ok (.bipush 7, 2) := by decide +kernel
theorem dX8_unlike_91 : decode cX8_unlike 91 = .ok (.iload_n 2, 1) := by decide +kernel
theorem dX8_unlike_92 : decode cX8_unlike 92 = .ok (.iadd, 1) := by decide +kernel
theorem dX8_unlike_93 : decode cX8_unlike 93 = .ok (.iaload, 1) := by decide +kernel
theorem dX8_unlike_94 : decode cX8_unlike 94 = .ok (.aload_n 0, 1) := by decide +kernel
theorem dX8_unlike_95 : decode cX8_unlike 95 = .ok (.iload 4, 2) := by decide +kernel
theorem dX8_unlike_97 : decode cX8_unlike 97 = .ok (.iload 7, 2) := by decide +kernel
theorem dX8_unlike_99 : decode cX8_unlike 99 = .ok (.invokevirtual 112, 3) := by decide +kernel
theorem dX8_unlike_102 : decode cX8_unlike 102 = .ok (.if_icmp .eq 7, 3) := by decide +kernel
theorem dX8_unlike_105 : decode cX8_unlike 105 = .ok (.iload 7, 2) := by decide +kernel
theorem dX8_unlike_107 : decode cX8_unlike 107 = .ok (.istore 6, 2) := by decide +kernel
theorem dX8_unlike_109 : decode cX8_unlike 109 = .ok (.iinc 7 1, 3) := by decide +kernel
theorem dX8_unlike_112 : decode cX8_unlike 112 = .ok (.goto (-79), 3) := by decide +kernel
theorem dX8_unlike_115 : decode cX8_unlike 115 = .ok (.aload_n 0, 1) := by decide +kernel
theorem dX8_unlike_116 : decode cX8_unlike 116 = .ok (.aload_n 0, 1) := by decide +kernel
theorem dX8_unlike_117 : decode cX8_unlike 117 = .ok (.getfield 79, 3) := by decide +kernel
theorem dX8_unlike_120 : decode cX8_unlike 120 = .ok (.invokevirtual 250, 3) := by decide +kernel
theorem dX8_unlike_123 : decode cX8_unlike 123 = .ok (.iload 6, 2) := by decide +kernel
theorem dX8_unlike_125 : decode cX8_unlike 125 = .ok (.ireturn, 1) := by decide +kernel
theorem dX8_judge_0 : decode cX8_judge 0 = .ok (.aload_n 0, 1) := by decide +kernel
theorem dX8_judge_1 : decode cX8_judge 1 = .ok (.iload_n 1, 1) := by decide +kernel
theorem dX8_judge_2 : decode cX8_judge 2 = .ok (.invokevirtual 281, 3) := by decide +kernel
theorem dX8_judge_5 : decode cX8_judge 5 = .ok (.istore_n 3, 1) := by decide +kernel
theorem dX8_judge_6 : decode cX8_judge 6 = .ok (.iload_n 3, 1) := by decide +kernel
theorem dX8_judge_7 : decode cX8_judge 7 = .ok (.iconst (-1), 1) := by decide +kernel
theorem dX8_judge_8 : decode cX8_judge 8 = .ok (.if_icmp .eq 11, 3) := by decide +kernel
theorem dX8_judge_11 : decode cX8_judge 11 = .ok (.aload_n 0, 1) := by decide +kernel
theorem dX8_judge_12 : decode cX8_judge 12 = .ok (.iload_n 2, 1) := by decide +kernel
theorem dX8_judge_13 : decode cX8_judge 13 = .ok (.invokevirtual 116, 3) := by decide +kernel
theorem dX8_judge_16 : decode cX8_judge 16 = .ok (.ifCond .ne 5, 3) := by decide +kernel
theorem dX8_judge_19 : decode cX8_judge 19 = .ok (.iconst (-1), 1) := by decide +kernel
theorem dX8_judge_20 : decode cX8_judge 20 = .ok (.ireturn, 1) := by decide +kernel
theorem dX8_judge_21 : decode cX8_judge 21 = .ok (.iload_n 3, 1) := by decide +kernel
theorem dX8_judge_22 : decode cX8_judge 22 = .ok (.ifCond .ge 7, 3) := by decide +kernel
theorem dX8_judge_25 : decode cX8_judge 25 = .ok (.iload_n 3, 1) := by decide +kernel
theorem dX8_judge_26 : decode cX8_judge 26 = .ok (.goto 9, 3) := by decide +kernel
theorem dX8_judge_29 : decode cX8_judge 29 = .ok (.aload_n 0, 1) := by decide +kernel
theorem dX8_judge_30 : decode cX8_judge 30 = .ok (.iload_n 1, 1) := by decide +kernel
theorem dX8_judge_31 : decode cX8_judge 31 = .ok (.iload_n 2, 1) := by decide +kernel
theorem dX8_judge_32 : decode cX8_judge 32 = .ok (.invokevirtual 284, 3) := by decide +kernel
theorem dX8_judge_35 : decode cX8_judge 35 = .ok (.ireturn, 1) := by decide +kernel
theorem dX8_fits_0 : decode cX8_fits 0 = .ok (.aload_n 0, 1) := by decide +kernel
theorem dX8_fits_1 : decode cX8_fits 1 = .ok (.iload_n 1, 1) := by decide +kernel
theorem dX8_fits_2 : decode cX8_fits 2 = .ok (.invokevirtual 281, 3) := by decide +kernel
theorem dX8_fits_5 : decode cX8_fits 5 = .ok (.istore 4, 2) := by decide +kernel
theorem dX8_fits_7 : decode cX8_fits 7 = .ok (.iload 4, 2) := by decide +kernel
theorem dX8_fits_9 : decode cX8_fits 9 = .ok (.iconst (-1), 1) := by decide +kernel
theorem dX8_fits_10 : decode cX8_fits 10 = .ok (.if_icmp .eq 38, 3) := by decide +kernel
theorem dX8_fits_13 : decode cX8_fits 13 = .ok (.iload_n 2, 1) := by decide +kernel
theorem dX8_fits_14 : decode cX8_fits 14 = .ok (.ifCond .lt 34, 3) := by decide +kernel
theorem dX8_fits_17 : decode cX8_fits 17 = .ok (.aload_n 0, 1) := by decide +kernel
theorem dX8_fits_18 : decode cX8_fits 18 = .ok (.iload_n 2, 1) := by decide +kernel
theorem dX8_fits_19 : decode cX8_fits 19 = .ok (.bipush 10, 2) := by decide +kernel
theorem dX8_fits_21 : decode cX8_fits 21 = .ok (.idiv, 1) := by decide +kernel
theorem dX8_fits_22 : decode cX8_fits 22 = .ok (.invokevirtual 116, 3) := by decide +kernel
theorem dX8_fits_25 : decode cX8_fits 25 = .ok (.ifCond .eq 23, 3) := by decide +kernel
theorem dX8_fits_28 : decode cX8_fits 28 = .ok (.aload_n 0, 1) := by decide +kernel
theorem dX8_fits_29 : decode cX8_fits 29 = .ok (.iload_n 2, 1) := by decide +kernel
theorem dX8_fits_30 : decode cX8_fits 30 = .ok (.bipush 10, 2) := by decide +kernel
theorem dX8_fits_32 : decode cX8_fits 32 = .ok (.irem, 1) := by decide +kernel
theorem dX8_fits_33 : decode cX8_fits 33 = .ok (.invokevirtual 116, 3) := by decide +kernel
theorem dX8_fits_36 : decode cX8_fits 36 = .ok (.ifCond .eq 12, 3) := by decide +kernel
theorem dX8_fits_39 : decode cX8_fits 39 = .ok (.iload_n 3, 1) := by decide +kernel
theorem dX8_fits_40 : decode cX8_fits 40 = .ok (.iconst 0, 1) := by decide +kernel
theorem dX8_fits_41 : decode cX8_fits 41 = .ok (.iconst 3, 1) := by decide +kernel
theorem dX8_fits_42 : decode cX8_fits 42 = .ok (.invokestatic 98, 3) := by decide +kernel
theorem dX8_fits_45 : decode cX8_fits 45 = .ok (.ifCond .ne 5, 3) := by decide +kernel
theorem dX8_fits_48 : decode cX8_fits 48 = .ok (.iconst (-1), 1) := by decide +kernel
theorem dX8_fits_49 : decode cX8_fits 49 = .ok (.ireturn, 1) := by decide +kernel
theorem dX8_fits_50 : decode cX8_fits 50 = .ok (.iload 4, 2) := by decide +kernel
theorem dX8_fits_52 : decode cX8_fits 52 = .ok (.ifCond .ge 6, 3) := by decide +kernel
theorem dX8_fits_55 : decode cX8_fits 55 = .ok (.iload 4, 2) := by decide +kernel
theorem dX8_fits_57 : decode cX8_fits 57 = .ok (.ireturn, 1) := by decide +kernel
theorem dX8_fits_58 : decode cX8_fits 58 = .ok (.iload_n 3, 1) := by decide +kernel
theorem dX8_fits_59 : decode cX8_fits 59 = .ok (.iconst 2, 1) := by decide +kernel
theorem dX8_fits_60 : decode cX8_fits 60 = .ok (.idiv, 1) := by decide +kernel
theorem dX8_fits_61 : decode cX8_fits 61 = .ok (.istore 5, 2) := by decide +kernel
theorem dX8_fits_63 : decode cX8_fits 63 = .ok (.aload_n 0, 1) := by decide +kernel
theorem dX8_fits_64 : decode cX8_fits 64 = .ok (.iload_n 2, 1) := by decide +kernel
theorem dX8_fits_65 : decode cX8_fits 65 = .ok (.bipush 10, 2) := by decide +kernel
theorem dX8_fits_67 : decode cX8_fits 67 = .ok (.irem, 1) := by decide +kernel
theorem dX8_fits_68 : decode cX8_fits 68 = .ok (.iload 5, 2) := by decide +kernel
theorem dX8_fits_70 : decode cX8_fits 70 = .ok (.invokevirtual 126, 3) := by decide +kernel
theorem dX8_fits_73 : decode cX8_fits 73 = .ok (.istore 6, 2) := by decide +kernel
theorem dX8_fits_75 : decode cX8_fits 75 = .ok (.iconst 0, 1) := by decide +kernel
theorem dX8_fits_76 : decode cX8_fits 76 = .ok (.istore 7, 2) := by decide +kernel
theorem dX8_fits_78 : decode cX8_fits 78 = .ok (.bipush (-2), 2) := by decide +kernel
theorem dX8_fits_80 : decode cX8_fits 80 = .ok (.istore 8, 2) := by decide +kernel
theorem dX8_fits_82 : decode cX8_fits 82 = .ok (.iload 5, 2) := by decide +kernel
theorem dX8_fits_84 : decode cX8_fits 84 = .ok (.ifCond .ne 8, 3) := by decide +kernel
theorem dX8_fits_87 : decode cX8_fits 87 = .ok (.bipush 127, 2) := by decide +kernel
theorem dX8_fits_89 : decode cX8_fits 89 = .ok (.goto 5, 3) := by decide +kernel
theorem dX8_fits_92 : decode cX8_fits 92 = .ok (.bipush 99, 2) := by decide +kernel
theorem dX8_fits_94 : decode cX8_fits 94 = .ok (.istore 9, 2) := by decide +kernel
theorem dX8_fits_96 : decode cX8_fits 96 = .ok (.iload 9, 2) := by decide +kernel
theorem dX8_fits_98 : decode cX8_fits 98 = .ok (.ifCond .lt 45, 3) := by decide +kernel
theorem dX8_fits_101 : decode cX8_fits 101 = .ok (.aload_n 0, 1) := by decide +kernel
theorem dX8_fits_102 : decode cX8_fits 102 = .ok (.iload_n 2, 1) := by decide +kernel
theorem dX8_fits_103 : decode cX8_fits 103 = .ok (.bipush 10, 2) := by decide +kernel
theorem dX8_fits_105 : decode cX8_fits 105 = .ok (.irem, 1) := by decide +kernel
theorem dX8_fits_106 : decode cX8_fits 106 = .ok (.iload 5, 2) := by decide +kernel
theorem dX8_fits_108 : decode cX8_fits 108 = .ok (.iload 9, 2) := by decide +kernel
theorem dX8_fits_110 : decode cX8_fits 110 = .ok (.invokevirtual 129, 3) := by decide +kernel
theorem dX8_fits_113 : decode cX8_fits 113 = .ok (.aload_n 0, 1) := by decide +kernel
theorem dX8_fits_114 : decode cX8_fits 114 = .ok (.iload_n 1, 1) := by decide +kernel
theorem dX8_fits_115 : decode cX8_fits 115 = .ok (.iload_n 2, 1) := by decide +kernel
theorem dX8_fits_116 : decode cX8_fits 116 = .ok (.bipush 10, 2) := by decide +kernel
theorem dX8_fits_118 : decode cX8_fits 118 = .ok (.idiv, 1) := by decide +kernel
theorem dX8_fits_119 : decode cX8_fits 119 = .ok (.invokevirtual 284, 3) := by decide +kernel
theorem dX8_fits_122 : decode cX8_fits 122 = .ok (.bipush (-2), 2) := by decide +kernel
theorem dX8_fits_124 : decode cX8_fits 124 = .ok (.if_icmp .eq 6, 3) := by decide +kernel
theorem dX8_fits_127 : decode cX8_fits 127 = .ok (.goto 10, 3) := by decide +kernel
theorem dX8_fits_130 : decode cX8_fits 130 = .ok (.iinc 7 1, 3) := by decide +kernel
theorem dX8_fits_133 : decode cX8_fits 133 = .ok (.iload 9, 2) := by decide +kernel
theorem dX8_fits_135 : decode cX8_fits 135 = .ok (.istore 8, 2) := by decide +kernel
theorem dX8_fits_137 : decode cX8_fits 137 = .ok (.iinc 9 (-1), 3) := by decide +kernel
theorem dX8_fits_140 : decode cX8_fits 140 = .ok (.goto (-44), 3) := by decide +kernel
theorem dX8_fits_143 : decode cX8_fits 143 = .ok (.aload_n 0, 1) := by decide +kernel
theorem dX8_fits_144 : decode cX8_fits 144 = .ok (.iload_n 2, 1) := by decide +kernel
theorem dX8_fits_145 : decode cX8_fits 145 = .ok (.bipush 10, 2) := by decide +kernel
theorem dX8_fits_147 : decode cX8_fits 147 = .ok (.irem, 1) := by decide +kernel
theorem dX8_fits_148 : decode cX8_fits 148 = .ok (.iload 5, 2) := by decide +kernel
theorem dX8_fits_150 : decode cX8_fits 150 = .ok (.iload 6, 2) := by decide +kernel
theorem dX8_fits_152 : decode cX8_fits 152 = .ok (.invokevirtual 129, 3) := by decide +kernel
theorem dX8_fits_155 : decode cX8_fits 155 = .ok (.iload_n 3, 1) := by decide +kernel
theorem dX8_fits_156 : decode cX8_fits 156 = .ok (.iconst 2, 1) := by decide +kernel
theorem dX8_fits_157 : decode cX8_fits 157 = .ok (.irem, 1) := by decide +kernel
theorem dX8_fits_158 : decode cX8_fits 158 = .ok (.ifCond .ne 8, 3) := by decide +kernel
theorem dX8_fits_161 : decode cX8_fits 161 = .ok (.iload 7, 2) := by decide +kernel
theorem dX8_fits_163 : decode cX8_fits 163 = .ok (.goto 5, 3) := by decide +kernel
theorem dX8_fits_166 : decode cX8_fits 166 = .ok (.iload 8, 2) := by decide +kernel
theorem dX8_fits_168 : decode cX8_fits 168 = .ok (.ireturn, 1) := by decide +kernel
theorem dX8_turnBy_0 : decode cX8_turnBy 0 = .ok (.aload_n 0, 1) := by decide +kernel
theorem dX8_turnBy_1 : decode cX8_turnBy 1 = .ok (.getfield 15, 3) := by decide +kernel
theorem dX8_turnBy_4 : decode cX8_turnBy 4 = .ok (.iconst 0, 1) := by decide +kernel
theorem dX8_turnBy_5 : decode cX8_turnBy 5 = .ok (.iaload, 1) := by decide +kernel
theorem dX8_turnBy_6 : decode cX8_turnBy 6 = .ok (.istore 5, 2) := by decide +kernel
theorem dX8_turnBy_8 : decode cX8_turnBy 8 = .ok (.aload_n 0, 1) := by decide +kernel
theorem dX8_turnBy_9 : decode cX8_turnBy 9 = .ok (.getfield 15, 3) := by decide +kernel
theorem dX8_turnBy_12 : decode cX8_turnBy 12 = .ok (.iconst 1, 1) := by decide +kernel
theorem dX8_turnBy_13 : decode cX8_turnBy 13 = .ok (.iaload, 1) := by decide +kernel
theorem dX8_turnBy_14 : decode cX8_turnBy 14 = .ok (.istore 6, 2) := by decide +kernel
theorem dX8_turnBy_16 : decode cX8_turnBy 16 = .ok (.lconst 0, 1) := by decide +kernel
theorem dX8_turnBy_17 : decode cX8_turnBy 17 = .ok (.lstore 7, 2) := by decide +kernel
theorem dX8_turnBy_19 : decode cX8_turnBy 19 = .ok (.lconst 0, 1) := by decide +kernel
theorem dX8_turnBy_20 : decode cX8_turnBy 20 = .ok (.lstore 9, 2) := by decide +kernel
theorem dX8_turnBy_22 : decode cX8_turnBy 22 = .ok (.iconst 0, 1) := by decide +kernel
theorem dX8_turnBy_23 : decode cX8_turnBy 23 = .ok (.istore 11, 2) := by decide +kernel
theorem dX8_turnBy_25 : decode cX8_turnBy 25 = .ok (.iload 11, 2) := by decide +kernel
theorem dX8_turnBy_27 : decode cX8_turnBy 27 = .ok (.aload_n 0, 1) := by decide +kernel
theorem dX8_turnBy_28 : decode cX8_turnBy 28 = .ok (.getfield 94, 3) := by decide +kernel
theorem dX8_turnBy_31 : decode cX8_turnBy 31 = .ok (.if_icmp .ge 53, 3) := by decide +kernel
theorem dX8_turnBy_34 : decode cX8_turnBy 34 = .ok (.lload 7, 2) := by decide +kernel
theorem dX8_turnBy_36 : decode cX8_turnBy 36 = .ok (.aload_n 0, 1) := by decide +kernel
theorem dX8_turnBy_37 : decode cX8_turnBy 37 = .ok (.getfield 9, 3) := by decide +kernel
theorem dX8_turnBy_40 : decode cX8_turnBy 40 = .ok (.bipush 7, 2) := by decide +kernel
theorem dX8_turnBy_42 : decode cX8_turnBy 42 = .ok (.iload 11, 2) := by decide +kernel
theorem dX8_turnBy_44 : decode cX8_turnBy 44 = .ok (.iadd, 1) := by decide +kernel
theorem dX8_turnBy_45 : decode cX8_turnBy 45 = .ok (.iaload, 1) := by decide +kernel
theorem dX8_turnBy_46 : decode cX8_turnBy 46 = .ok (.i2l, 1) := by decide +kernel
theorem dX8_turnBy_47 : decode cX8_turnBy 47 = .ok (.bipush 8, 2) := by decide +kernel
theorem dX8_turnBy_49 : decode cX8_turnBy 49 = .ok (.iload 11, 2) := by decide +kernel
theorem dX8_turnBy_51 : decode cX8_turnBy 51 = .ok (.imul, 1) := by decide +kernel
theorem dX8_turnBy_52 : decode cX8_turnBy 52 = .ok (.lshl, 1) := by decide +kernel
theorem dX8_turnBy_53 : decode cX8_turnBy 53 = .ok (.lor, 1) := by decide +kernel
theorem dX8_turnBy_54 : decode cX8_turnBy 54 = .ok (.lstore 7, 2) := by decide +kernel
theorem dX8_turnBy_56 : decode cX8_turnBy 56 = .ok (.lload 9, 2) := by decide +kernel
theorem dX8_turnBy_58 : decode cX8_turnBy 58 = .ok (.aload_n 0, 1) := by decide +kernel
theorem dX8_turnBy_59 : decode cX8_turnBy 59 = .ok (.getfield 9, 3) := by decide +kernel
theorem dX8_turnBy_62 : decode cX8_turnBy 62 = .ok (.bipush 14, 2) := by decide +kernel
theorem dX8_turnBy_64 : decode cX8_turnBy 64 = .ok (.iload 11, 2) := by decide +kernel
theorem dX8_turnBy_66 : decode cX8_turnBy 66 = .ok (.iadd, 1) := by decide +kernel
theorem dX8_turnBy_67 : decode cX8_turnBy 67 = .ok (.iaload, 1) := by decide +kernel
theorem dX8_turnBy_68 : decode cX8_turnBy 68 = .ok (.i2l, 1) := by decide +kernel
theorem dX8_turnBy_69 : decode cX8_turnBy 69 = .ok (.bipush 8, 2) := by decide +kernel
theorem dX8_turnBy_71 : decode cX8_turnBy 71 = .ok (.iload 11, 2) := by decide +kernel
theorem dX8_turnBy_73 : decode cX8_turnBy 73 = .ok (.imul, 1) := by decide +kernel
theorem dX8_turnBy_74 : decode cX8_turnBy 74 = .ok (.lshl, 1) := by decide +kernel
theorem dX8_turnBy_75 : decode cX8_turnBy 75 = .ok (.lor, 1) := by decide +kernel
theorem dX8_turnBy_76 : decode cX8_turnBy 76 = .ok (.lstore 9, 2) := by decide +kernel
theorem dX8_turnBy_78 : decode cX8_turnBy 78 = .ok (.iinc 11 1, 3) := by decide +kernel
theorem dX8_turnBy_81 : decode cX8_turnBy 81 = .ok (.goto (-56), 3) := by decide +kernel
theorem dX8_turnBy_84 : decode cX8_turnBy 84 = .ok (.iload_n 1, 1) := by decide +kernel
theorem dX8_turnBy_85 : decode cX8_turnBy 85 = .ok (.iconst 2, 1) := by decide +kernel
theorem dX8_turnBy_86 : decode cX8_turnBy 86 = .ok (.irem, 1) := by decide +kernel
theorem dX8_turnBy_87 : decode cX8_turnBy 87 = .ok (.ifCond .ne 10, 3) := by decide +kernel
theorem dX8_turnBy_90 : decode cX8_turnBy 90 = .ok (.iload_n 3, 1) := by decide +kernel
theorem dX8_turnBy_91 : decode cX8_turnBy 91 = .ok (.bipush 10, 2) := by decide +kernel
theorem dX8_turnBy_93 : decode cX8_turnBy 93 = .ok (.idiv, 1) := by decide +kernel
theorem dX8_turnBy_94 : decode cX8_turnBy 94 = .ok (.goto 7, 3) := by decide +kernel
theorem dX8_turnBy_97 : decode cX8_turnBy 97 = .ok (.iload_n 3, 1) := by decide +kernel
theorem dX8_turnBy_98 : decode cX8_turnBy 98 = .ok (.bipush 10, 2) := by decide +kernel
theorem dX8_turnBy_100 : decode cX8_turnBy 100 = .ok (.irem, 1) := by decide +kernel
theorem dX8_turnBy_101 : decode cX8_turnBy 101 = .ok (.istore 11, 2) := by decide +kernel
theorem dX8_turnBy_103 : decode cX8_turnBy 103 = .ok (.aload_n 0, 1) := by decide +kernel
theorem dX8_turnBy_104 : decode cX8_turnBy 104 = .ok (.iload 4, 2) := by decide +kernel
theorem dX8_turnBy_106 : decode cX8_turnBy 106 = .ok (.ifCond .eq 8, 3) := by decide +kernel
theorem dX8_turnBy_109 : decode cX8_turnBy 109 = .ok (.iload 11, 2) := by decide +kernel
theorem dX8_turnBy_111 : decode cX8_turnBy 111 = .ok (.goto 5, 3) := by decide +kernel
theorem dX8_turnBy_114 : decode cX8_turnBy 114 = .ok (.bipush 7, 2) := by decide +kernel
theorem dX8_turnBy_116 : decode cX8_turnBy 116 = .ok (.invokevirtual 234, 3) := by decide +kernel
theorem dX8_turnBy_119 : decode cX8_turnBy 119 = .ok (.istore 12, 2) := by decide +kernel
theorem dX8_turnBy_121 : decode cX8_turnBy 121 = .ok (.iload_n 1, 1) := by decide +kernel
theorem dX8_turnBy_122 : decode cX8_turnBy 122 = .ok (.iconst 2, 1) := by decide +kernel
theorem dX8_turnBy_123 : decode cX8_turnBy 123 = .ok (.irem, 1) := by decide +kernel
theorem dX8_turnBy_124 : decode cX8_turnBy 124 = .ok (.ifCond .ne 8, 3) := by decide +kernel
theorem dX8_turnBy_127 : decode cX8_turnBy 127 = .ok (.iload 12, 2) := by decide +kernel
theorem dX8_turnBy_129 : decode cX8_turnBy 129 = .ok (.goto 6, 3) := by decide +kernel
theorem dX8_turnBy_132 : decode cX8_turnBy 132 = .ok (.iload 12, 2) := by decide +kernel
theorem dX8_turnBy_134 : decode cX8_turnBy 134 = .ok (.ineg, 1) := by decide +kernel
theorem dX8_turnBy_135 : decode cX8_turnBy 135 = .ok (.aload_n 0, 1) := by decide +kernel
theorem dX8_turnBy_136 : decode cX8_turnBy 136 = .ok (.iload_n 1, 1) := by decide +kernel
theorem dX8_turnBy_137 : decode cX8_turnBy 137 = .ok (.iconst 1, 1) := by decide +kernel
theorem dX8_turnBy_138 : decode cX8_turnBy 138 = .ok (.iadd, 1) := by decide +kernel
theorem dX8_turnBy_139 : decode cX8_turnBy 139 = .ok (.iload_n 2, 1) := by decide +kernel
theorem dX8_turnBy_140 : decode cX8_turnBy 140 = .ok (.iload_n 3, 1) := by decide +kernel
theorem dX8_turnBy_141 : decode cX8_turnBy 141 = .ok (.invokevirtual 291, 3) := by decide +kernel
theorem dX8_turnBy_144 : decode cX8_turnBy 144 = .ok (.iadd, 1) := by decide +kernel
theorem dX8_turnBy_145 : decode cX8_turnBy 145 = .ok (.istore 13, 2) := by decide +kernel
theorem dX8_turnBy_147 : decode cX8_turnBy 147 = .ok (.aload_n 0, 1) := by decide +kernel
theorem dX8_turnBy_148 : decode cX8_turnBy 148 = .ok (.getfield 15, 3) := by decide +kernel
theorem dX8_turnBy_151 : decode cX8_turnBy 151 = .ok (.iconst 0, 1) := by decide +kernel
theorem dX8_turnBy_152 : decode cX8_turnBy 152 = .ok (.iload 5, 2) := by decide +kernel
theorem dX8_turnBy_154 : decode cX8_turnBy 154 = .ok (.iastore, 1) := by decide +kernel
theorem dX8_turnBy_155 : decode cX8_turnBy 155 = .ok (.aload_n 0, 1) := by decide +kernel
theorem dX8_turnBy_156 : decode cX8_turnBy 156 = .ok (.getfield 15, 3) := by decide +kernel
theorem dX8_turnBy_159 : decode cX8_turnBy 159 = .ok (.iconst 1, 1) := by decide +kernel
theorem dX8_turnBy_160 : decode cX8_turnBy 160 = .ok (.iload 6, 2) := by decide +kernel
theorem dX8_turnBy_162 : decode cX8_turnBy 162 = .ok (.iastore, 1) := by decide +kernel
theorem dX8_turnBy_163 : decode cX8_turnBy 163 = .ok (.iconst 0, 1) := by decide +kernel
theorem dX8_turnBy_164 : decode cX8_turnBy 164 = .ok (.istore 14, 2) := by decide +kernel
theorem dX8_turnBy_166 : decode cX8_turnBy 166 = .ok (.iload 14, 2) := by decide +kernel
theorem dX8_turnBy_168 : decode cX8_turnBy 168 = .ok (.aload_n 0, 1) := by decide +kernel
theorem dX8_turnBy_169 : decode cX8_turnBy 169 = .ok (.getfield 94, 3) := by decide +kernel
theorem dX8_turnBy_172 : decode cX8_turnBy 172 = .ok (.if_icmp .ge 55, 3) := by decide +kernel
theorem dX8_turnBy_175 : decode cX8_turnBy 175 = .ok (.aload_n 0, 1) := by decide +kernel
theorem dX8_turnBy_176 : decode cX8_turnBy 176 = .ok (.getfield 9, 3) := by decide +kernel
theorem dX8_turnBy_179 : decode cX8_turnBy 179 = .ok (.bipush 7, 2) := by decide +kernel
theorem dX8_turnBy_181 : decode cX8_turnBy 181 = .ok (.iload 14, 2) := by decide +kernel
theorem dX8_turnBy_183 : decode cX8_turnBy 183 = .ok (.iadd, 1) := by decide +kernel
theorem dX8_turnBy_184 : decode cX8_turnBy 184 = .ok (.lload 7, 2) := by decide +kernel
theorem dX8_turnBy_186 : decode cX8_turnBy 186 = .ok (.bipush 8, 2) := by decide +kernel
theorem dX8_turnBy_188 : decode cX8_turnBy 188 = .ok (.iload 14, 2) := by decide +kernel
theorem dX8_turnBy_190 : decode cX8_turnBy 190 = .ok (.imul, 1) := by decide +kernel
theorem dX8_turnBy_191 : decode cX8_turnBy 191 = .ok (.lshr, 1) := by decide +kernel
theorem dX8_turnBy_192 : decode cX8_turnBy 192 = .ok (.ldc2_w 294, 3) := by decide +kernel
theorem dX8_turnBy_195 : decode cX8_turnBy 195 = .ok (.land, 1) := by decide +kernel
theorem dX8_turnBy_196 : decode cX8_turnBy 196 = .ok (.l2i, 1) := by decide +kernel
theorem dX8_turnBy_197 : decode cX8_turnBy 197 = .ok (.iastore, 1) := by decide +kernel
theorem dX8_turnBy_198 : decode cX8_turnBy 198 = .ok (.aload_n 0, 1) := by decide +kernel
theorem dX8_turnBy_199 : decode cX8_turnBy 199 = .ok (.getfield 9, 3) := by decide +kernel
theorem dX8_turnBy_202 : decode cX8_turnBy 202 = .ok (.bipush 14, 2) := by decide +kernel
theorem dX8_turnBy_204 : decode cX8_turnBy 204 = .ok (.iload 14, 2) := by decide +kernel
theorem dX8_turnBy_206 : decode cX8_turnBy 206 = .ok (.iadd, 1) := by decide +kernel
theorem dX8_turnBy_207 : decode cX8_turnBy 207 = .ok (.lload 9, 2) := by decide +kernel
theorem dX8_turnBy_209 : decode cX8_turnBy 209 = .ok (.bipush 8, 2) := by decide +kernel
theorem dX8_turnBy_211 : decode cX8_turnBy 211 = .ok (.iload 14, 2) := by decide +kernel
theorem dX8_turnBy_213 : decode cX8_turnBy 213 = .ok (.imul, 1) := by decide +kernel
theorem dX8_turnBy_214 : decode cX8_turnBy 214 = .ok (.lshr, 1) := by decide +kernel
theorem dX8_turnBy_215 : decode cX8_turnBy 215 = .ok (.ldc2_w 294, 3) := by decide +kernel
theorem dX8_turnBy_218 : decode cX8_turnBy 218 = .ok (.land, 1) := by decide +kernel
theorem dX8_turnBy_219 : decode cX8_turnBy 219 = .ok (.l2i, 1) := by decide +kernel
theorem dX8_turnBy_220 : decode cX8_turnBy 220 = .ok (.iastore, 1) := by decide +kernel
theorem dX8_turnBy_221 : decode cX8_turnBy 221 = .ok (.iinc 14 1, 3) := by decide +kernel
theorem dX8_turnBy_224 : decode cX8_turnBy 224 = .ok (.goto (-58), 3) := by decide +kernel
theorem dX8_turnBy_227 : decode cX8_turnBy 227 = .ok (.iload 13, 2) := by decide +kernel
theorem dX8_turnBy_229 : decode cX8_turnBy 229 = .ok (.ireturn, 1) := by decide +kernel
theorem dX8_turnFrom_0 : decode cX8_turnFrom 0 = .ok (.iload_n 1, 1) := by decide +kernel
theorem dX8_turnFrom_1 : decode cX8_turnFrom 1 = .ok (.iload_n 2, 1) := by decide +kernel
theorem dX8_turnFrom_2 : decode cX8_turnFrom 2 = .ok (.if_icmp .ne 5, 3) := by decide +kernel
theorem dX8_turnFrom_5 : decode cX8_turnFrom 5 = .ok (.iconst 0, 1) := by decide +kernel
theorem dX8_turnFrom_6 : decode cX8_turnFrom 6 = .ok (.ireturn, 1) := by decide +kernel
theorem dX8_turnFrom_7 : decode cX8_turnFrom 7 = .ok (.aload_n 0, 1) := by decide +kernel
theorem dX8_turnFrom_8 : decode cX8_turnFrom 8 = .ok (.iload_n 1, 1) := by decide +kernel
theorem dX8_turnFrom_9 : decode cX8_turnFrom 9 = .ok (.iload_n 2, 1) := by decide +kernel
theorem dX8_turnFrom_10 : decode cX8_turnFrom 10 = .ok (.iload_n 3, 1) := by decide +kernel
theorem dX8_turnFrom_11 : decode cX8_turnFrom 11 = .ok (.iconst 0, 1) := by decide +kernel
theorem dX8_turnFrom_12 : decode cX8_turnFrom 12 = .ok (.invokevirtual 287, 3) := by decide +kernel
theorem dX8_turnFrom_15 : decode cX8_turnFrom 15 = .ok (.istore 4, 2) := by decide +kernel
theorem dX8_turnFrom_17 : decode cX8_turnFrom 17 = .ok (.aload_n 0, 1) := by decide +kernel
theorem dX8_turnFrom_18 : decode cX8_turnFrom 18 = .ok (.iload_n 1, 1) := by decide +kernel
theorem dX8_turnFrom_19 : decode cX8_turnFrom 19 = .ok (.iload_n 2, 1) := by decide +kernel
theorem dX8_turnFrom_20 : decode cX8_turnFrom 20 = .ok (.iload_n 3, 1) := by decide +kernel
theorem dX8_turnFrom_21 : decode cX8_turnFrom 21 = .ok (.iconst 1, 1) := by decide +kernel
theorem dX8_turnFrom_22 : decode cX8_turnFrom 22 = .ok (.invokevirtual 287, 3) := by decide +kernel
theorem dX8_turnFrom_25 : decode cX8_turnFrom 25 = .ok (.istore 5, 2) := by decide +kernel
theorem dX8_turnFrom_27 : decode cX8_turnFrom 27 = .ok (.iload_n 1, 1) := by decide +kernel
theorem dX8_turnFrom_28 : decode cX8_turnFrom 28 = .ok (.iconst 2, 1) := by decide +kernel
theorem dX8_turnFrom_29 : decode cX8_turnFrom 29 = .ok (.irem, 1) := by decide +kernel
theorem dX8_turnFrom_30 : decode cX8_turnFrom 30 = .ok (.ifCond .ne 13, 3) := by decide +kernel
theorem dX8_turnFrom_33 : decode cX8_turnFrom 33 = .ok (.iload 4, 2) := by decide +kernel
theorem dX8_turnFrom_35 : decode cX8_turnFrom 35 = .ok (.iload 5, 2) := by decide +kernel
theorem dX8_turnFrom_37 : decode cX8_turnFrom 37 = .ok (.invokestatic 225, 3) := by decide +kernel
theorem dX8_turnFrom_40 : decode cX8_turnFrom 40 = .ok (.goto 10, 3) := by decide +kernel
theorem dX8_turnFrom_43 : decode cX8_turnFrom 43 = .ok (.iload 4, 2) := by decide +kernel
theorem dX8_turnFrom_45 : decode cX8_turnFrom 45 = .ok (.iload 5, 2) := by decide +kernel
theorem dX8_turnFrom_47 : decode cX8_turnFrom 47 = .ok (.invokestatic 220, 3) := by decide +kernel
theorem dX8_turnFrom_50 : decode cX8_turnFrom 50 = .ok (.ireturn, 1) := by decide +kernel
theorem dX8_byTurns_0 : decode cX8_byTurns 0 = .ok (.iload_n 1, 1) := by decide +kernel
theorem dX8_byTurns_1 : decode cX8_byTurns 1 = .ok (.ifCond .lt 54, 3) := by decide +kernel
theorem dX8_byTurns_4 : decode cX8_byTurns 4 = .ok (.aload_n 0, 1) := by decide +kernel
theorem dX8_byTurns_5 : decode cX8_byTurns 5 = .ok (.iload_n 1, 1) := by decide +kernel
theorem dX8_byTurns_6 : decode cX8_byTurns 6 = .ok (.bipush 10, 2) := by decide +kernel
theorem dX8_byTurns_8 : decode cX8_byTurns 8 = .ok (.idiv, 1) := by decide +kernel
theorem dX8_byTurns_9 : decode cX8_byTurns 9 = .ok (.invokevirtual 116, 3) := by decide +kernel
theorem dX8_byTurns_12 : decode cX8_byTurns 12 = .ok (.ifCond .eq 43, 3) := by decide +kernel
theorem dX8_byTurns_15 : decode cX8_byTurns 15 = .ok (.aload_n 0, 1) := by decide +kernel
theorem dX8_byTurns_16 : decode cX8_byTurns 16 = .ok (.iload_n 1, 1) := by decide +kernel
theorem dX8_byTurns_17 : decode cX8_byTurns 17 = .ok (.bipush 10, 2) := by decide +kernel
theorem dX8_byTurns_19 : decode cX8_byTurns 19 = .ok (.irem, 1) := by decide +kernel
theorem dX8_byTurns_20 : decode cX8_byTurns 20 = .ok (.invokevirtual 116, 3) := by decide +kernel
theorem dX8_byTurns_23 : decode cX8_byTurns 23 = .ok (.ifCond .eq 32, 3) := by decide +kernel
theorem dX8_byTurns_26 : decode cX8_byTurns 26 = .ok (.iload_n 1, 1) := by decide +kernel
theorem dX8_byTurns_27 : decode cX8_byTurns 27 = .ok (.bipush 10, 2) := by decide +kernel
theorem dX8_byTurns_29 : decode cX8_byTurns 29 = .ok (.idiv, 1) := by decide +kernel
theorem dX8_byTurns_30 : decode cX8_byTurns 30 = .ok (.iload_n 1, 1) := by decide +kernel
theorem dX8_byTurns_31 : decode cX8_byTurns 31 = .ok (.bipush 10, 2) := by decide +kernel
theorem dX8_byTurns_33 : decode cX8_byTurns 33 = .ok (.irem, 1) := by decide +kernel
theorem dX8_byTurns_34 : decode cX8_byTurns 34 = .ok (.if_icmp .eq 21, 3) := by decide +kernel
theorem dX8_byTurns_37 : decode cX8_byTurns 37 = .ok (.iload_n 2, 1) := by decide +kernel
theorem dX8_byTurns_38 : decode cX8_byTurns 38 = .ok (.iconst 1, 1) := by decide +kernel
theorem dX8_byTurns_39 : decode cX8_byTurns 39 = .ok (.iconst 5, 1) := by decide +kernel
theorem dX8_byTurns_40 : decode cX8_byTurns 40 = .ok (.invokestatic 98, 3) := by decide +kernel
theorem dX8_byTurns_43 : decode cX8_byTurns 43 = .ok (.ifCond .eq 12, 3) := by decide +kernel
theorem dX8_byTurns_46 : decode cX8_byTurns 46 = .ok (.iload_n 3, 1) := by decide +kernel
theorem dX8_byTurns_47 : decode cX8_byTurns 47 = .ok (.iconst 0, 1) := by decide +kernel
theorem dX8_byTurns_48 : decode cX8_byTurns 48 = .ok (.iconst 1, 1) := by decide +kernel
theorem dX8_byTurns_49 : decode cX8_byTurns 49 = .ok (.invokestatic 98, 3) := by decide +kernel
theorem dX8_byTurns_52 : decode cX8_byTurns 52 = .ok (.ifCond .ne 7, 3) := by decide +kernel
theorem dX8_byTurns_55 : decode cX8_byTurns 55 = .ok (.ldc_w 296, 3) := by decide +kernel
theorem dX8_byTurns_58 : decode cX8_byTurns 58 = .ok (.ireturn, 1) := by decide +kernel
theorem dX8_byTurns_59 : decode cX8_byTurns 59 = .ok (.aload_n 0, 1) := by decide +kernel
theorem dX8_byTurns_60 : decode cX8_byTurns 60 = .ok (.iconst 0, 1) := by decide +kernel
theorem dX8_byTurns_61 : decode cX8_byTurns 61 = .ok (.iload_n 2, 1) := by decide +kernel
theorem dX8_byTurns_62 : decode cX8_byTurns 62 = .ok (.iload_n 1, 1) := by decide +kernel
theorem dX8_byTurns_63 : decode cX8_byTurns 63 = .ok (.iconst 0, 1) := by decide +kernel
theorem dX8_byTurns_64 : decode cX8_byTurns 64 = .ok (.invokevirtual 287, 3) := by decide +kernel
theorem dX8_byTurns_67 : decode cX8_byTurns 67 = .ok (.istore 4, 2) := by decide +kernel
theorem dX8_byTurns_69 : decode cX8_byTurns 69 = .ok (.aload_n 0, 1) := by decide +kernel
theorem dX8_byTurns_70 : decode cX8_byTurns 70 = .ok (.iconst 0, 1) := by decide +kernel
theorem dX8_byTurns_71 : decode cX8_byTurns 71 = .ok (.iload_n 2, 1) := by decide +kernel
theorem dX8_byTurns_72 : decode cX8_byTurns 72 = .ok (.iload_n 1, 1) := by decide +kernel
theorem dX8_byTurns_73 : decode cX8_byTurns 73 = .ok (.iconst 1, 1) := by decide +kernel
theorem dX8_byTurns_74 : decode cX8_byTurns 74 = .ok (.invokevirtual 287, 3) := by decide +kernel
theorem dX8_byTurns_77 : decode cX8_byTurns 77 = .ok (.istore 5, 2) := by decide +kernel
theorem dX8_byTurns_79 : decode cX8_byTurns 79 = .ok (.iload_n 3, 1) := by decide +kernel
theorem dX8_byTurns_80 : decode cX8_byTurns 80 = .ok (.ifCond .ne 13, 3) := by decide +kernel
theorem dX8_byTurns_83 : decode cX8_byTurns 83 = .ok (.iload 4, 2) := by decide +kernel
theorem dX8_byTurns_85 : decode cX8_byTurns 85 = .ok (.iload 5, 2) := by decide +kernel
theorem dX8_byTurns_87 : decode cX8_byTurns 87 = .ok (.invokestatic 225, 3) := by decide +kernel
theorem dX8_byTurns_90 : decode cX8_byTurns 90 = .ok (.goto 15, 3) := by decide +kernel
theorem dX8_byTurns_93 : decode cX8_byTurns 93 = .ok (.iload 5, 2) := by decide +kernel
theorem dX8_byTurns_95 : decode cX8_byTurns 95 = .ok (.iload 4, 2) := by decide +kernel
theorem dX8_byTurns_97 : decode cX8_byTurns 97 = .ok (.if_icmp .le 7, 3) := by decide +kernel
theorem dX8_byTurns_100 : decode cX8_byTurns 100 = .ok (.iconst 1, 1) := by decide +kernel
theorem dX8_byTurns_101 : decode cX8_byTurns 101 = .ok (.goto 4, 3) := by decide +kernel
theorem dX8_byTurns_104 : decode cX8_byTurns 104 = .ok (.iconst 0, 1) := by decide +kernel
theorem dX8_byTurns_105 : decode cX8_byTurns 105 = .ok (.ireturn, 1) := by decide +kernel
theorem dX8_drawn_0 : decode cX8_drawn 0 = .ok (.iload_n 2, 1) := by decide +kernel
theorem dX8_drawn_1 : decode cX8_drawn 1 = .ok (.ifCond .lt 55, 3) := by decide +kernel
theorem dX8_drawn_4 : decode cX8_drawn 4 = .ok (.iload_n 2, 1) := by decide +kernel
theorem dX8_drawn_5 : decode cX8_drawn 5 = .ok (.sipush 10000, 3) := by decide +kernel
theorem dX8_drawn_8 : decode cX8_drawn 8 = .ok (.idiv, 1) := by decide +kernel
theorem dX8_drawn_9 : decode cX8_drawn 9 = .ok (.iconst 1, 1) := by decide +kernel
theorem dX8_drawn_10 : decode cX8_drawn 10 = .ok (.bipush 30, 2) := by decide +kernel
theorem dX8_drawn_12 : decode cX8_drawn 12 = .ok (.invokestatic 98, 3) := by decide +kernel
theorem dX8_drawn_15 : decode cX8_drawn 15 = .ok (.ifCond .eq 41, 3) := by decide +kernel
theorem dX8_drawn_18 : decode cX8_drawn 18 = .ok (.iload_n 2, 1) := by decide +kernel
theorem dX8_drawn_19 : decode cX8_drawn 19 = .ok (.bipush 100, 2) := by decide +kernel
theorem dX8_drawn_21 : decode cX8_drawn 21 = .ok (.idiv, 1) := by decide +kernel
theorem dX8_drawn_22 : decode cX8_drawn 22 = .ok (.bipush 100, 2) := by decide +kernel
theorem dX8_drawn_24 : decode cX8_drawn 24 = .ok (.irem, 1) := by decide +kernel
theorem dX8_drawn_25 : decode cX8_drawn 25 = .ok (.iconst 1, 1) := by decide +kernel
theorem dX8_drawn_26 : decode cX8_drawn 26 = .ok (.bipush 28, 2) := by decide +kernel
theorem dX8_drawn_28 : decode cX8_drawn 28 = .ok (.invokestatic 98, 3) := by decide +kernel
theorem dX8_drawn_31 : decode cX8_drawn 31 = .ok (.ifCond .eq 25, 3) := by decide +kernel
theorem dX8_drawn_34 : decode cX8_drawn 34 = .ok (.iload_n 2, 1) := by decide +kernel
theorem dX8_drawn_35 : decode cX8_drawn 35 = .ok (.bipush 100, 2) := by decide +kernel
theorem dX8_drawn_37 : decode cX8_drawn 37 = .ok (.irem, 1) := by decide +kernel
theorem dX8_drawn_38 : decode cX8_drawn 38 = .ok (.bipush 12, 2) := by decide +kernel
theorem dX8_drawn_40 : decode cX8_drawn 40 = .ok (.if_icmp .gt 16, 3) := by decide +kernel
theorem dX8_drawn_43 : decode cX8_drawn 43 = .ok (.iload_n 3, 1) := by decide +kernel
theorem dX8_drawn_44 : decode cX8_drawn 44 = .ok (.iconst (-1), 1) := by decide +kernel
theorem dX8_drawn_45 : decode cX8_drawn 45 = .ok (.if_icmp .eq 13, 3) := by decide +kernel
theorem dX8_drawn_48 : decode cX8_drawn 48 = .ok (.aload_n 0, 1) := by decide +kernel
theorem dX8_drawn_49 : decode cX8_drawn 49 = .ok (.iload_n 3, 1) := by decide +kernel
theorem dX8_drawn_50 : decode cX8_drawn 50 = .ok (.invokevirtual 116, 3) := by decide +kernel
theorem dX8_drawn_53 : decode cX8_drawn 53 = .ok (.ifCond .ne 5, 3) := by decide +kernel
theorem dX8_drawn_56 : decode cX8_drawn 56 = .ok (.iconst (-1), 1) := by decide +kernel
theorem dX8_drawn_57 : decode cX8_drawn 57 = .ok (.ireturn, 1) := by decide +kernel
theorem dX8_drawn_58 : decode cX8_drawn 58 = .ok (.aload_n 0, 1) := by decide +kernel
theorem dX8_drawn_59 : decode cX8_drawn 59 = .ok (.aload_n 0, 1) := by decide +kernel
theorem dX8_drawn_60 : decode cX8_drawn 60 = .ok (.getfield 82, 3) := by decide +kernel
theorem dX8_drawn_63 : decode cX8_drawn 63 = .ok (.invokevirtual 240, 3) := by decide +kernel
theorem dX8_drawn_66 : decode cX8_drawn 66 = .ok (.iload_n 1, 1) := by decide +kernel
theorem dX8_drawn_67 : decode cX8_drawn 67 = .ok (.istore 4, 2) := by decide +kernel
theorem dX8_drawn_69 : decode cX8_drawn 69 = .ok (.iconst 0, 1) := by decide +kernel
theorem dX8_drawn_70 : decode cX8_drawn 70 = .ok (.istore 5, 2) := by decide +kernel
theorem dX8_drawn_72 : decode cX8_drawn 72 = .ok (.iconst 0, 1) := by decide +kernel
theorem dX8_drawn_73 : decode cX8_drawn 73 = .ok (.istore 6, 2) := by decide +kernel
theorem dX8_drawn_75 : decode cX8_drawn 75 = .ok (.iload 6, 2) := by decide +kernel
theorem dX8_drawn_77 : decode cX8_drawn 77 = .ok (.iload_n 2, 1) := by decide +kernel
theorem dX8_drawn_78 : decode cX8_drawn 78 = .ok (.sipush 10000, 3) := by decide +kernel
theorem dX8_drawn_81 : decode cX8_drawn 81 = .ok (.idiv, 1) := by decide +kernel
theorem dX8_drawn_82 : decode cX8_drawn 82 = .ok (.if_icmp .ge 121, 3) := by decide +kernel
theorem dX8_drawn_85 : decode cX8_drawn 85 = .ok (.iconst 0, 1) := by decide +kernel
theorem dX8_drawn_86 : decode cX8_drawn 86 = .ok (.istore 7, 2) := by decide +kernel
theorem dX8_drawn_88 : decode cX8_drawn 88 = .ok (.iload 7, 2) := by decide +kernel
theorem dX8_drawn_90 : decode cX8_drawn 90 = .ok (.iload_n 2, 1) := by decide +kernel
theorem dX8_drawn_91 : decode cX8_drawn 91 = .ok (.bipush 100, 2) := by decide +kernel
theorem dX8_drawn_93 : decode cX8_drawn 93 = .ok (.idiv, 1) := by decide +kernel
theorem dX8_drawn_94 : decode cX8_drawn 94 = .ok (.bipush 100, 2) := by decide +kernel
theorem dX8_drawn_96 : decode cX8_drawn 96 = .ok (.irem, 1) := by decide +kernel
theorem dX8_drawn_97 : decode cX8_drawn 97 = .ok (.if_icmp .ge 92, 3) := by decide +kernel
theorem dX8_drawn_100 : decode cX8_drawn 100 = .ok (.iload 4, 2) := by decide +kernel
theorem dX8_drawn_102 : decode cX8_drawn 102 = .ok (.ldc_w 297, 3) := by decide +kernel
theorem dX8_drawn_105 : decode cX8_drawn 105 = .ok (.imul, 1) := by decide +kernel
theorem dX8_drawn_106 : decode cX8_drawn 106 = .ok (.sipush 12345, 3) := by decide +kernel
theorem dX8_drawn_109 : decode cX8_drawn 109 = .ok (.iadd, 1) := by decide +kernel
theorem dX8_drawn_110 : decode cX8_drawn 110 = .ok (.istore 4, 2) := by decide +kernel
theorem dX8_drawn_112 : decode cX8_drawn 112 = .ok (.aload_n 0, 1) := by decide +kernel
theorem dX8_drawn_113 : decode cX8_drawn 113 = .ok (.getfield 94, 3) := by decide +kernel
theorem dX8_drawn_116 : decode cX8_drawn 116 = .ok (.ifCond .eq 18, 3) := by decide +kernel
theorem dX8_drawn_119 : decode cX8_drawn 119 = .ok (.iload 4, 2) := by decide +kernel
theorem dX8_drawn_121 : decode cX8_drawn 121 = .ok (.bipush 16, 2) := by decide +kernel
theorem dX8_drawn_123 : decode cX8_drawn 123 = .ok (.iushr, 1) := by decide +kernel
theorem dX8_drawn_124 : decode cX8_drawn 124 = .ok (.bipush 12, 2) := by decide +kernel
theorem dX8_drawn_126 : decode cX8_drawn 126 = .ok (.irem, 1) := by decide +kernel
theorem dX8_drawn_127 : decode cX8_drawn 127 = .ok (.iload_n 2, 1) := by decide +kernel
theorem dX8_drawn_128 : decode cX8_drawn 128 = .ok (.bipush 100, 2) := by decide +kernel
theorem dX8_drawn_130 : decode cX8_drawn 130 = .ok (.irem, 1) := by decide +kernel
theorem dX8_drawn_131 : decode cX8_drawn 131 = .ok (.if_icmp .ge 8, 3) := by decide +kernel
theorem dX8_drawn_134 : decode cX8_drawn 134 = .ok (.bipush 7, 2) := by decide +kernel
theorem dX8_drawn_136 : decode cX8_drawn 136 = .ok (.goto 13, 3) := by decide +kernel
theorem dX8_drawn_139 : decode cX8_drawn 139 = .ok (.iload 4, 2) := by decide +kernel
theorem dX8_drawn_141 : decode cX8_drawn 141 = .ok (.bipush 8, 2) := by decide +kernel
theorem dX8_drawn_143 : decode cX8_drawn 143 = .ok (.iushr, 1) := by decide +kernel
theorem dX8_drawn_144 : decode cX8_drawn 144 = .ok (.aload_n 0, 1) := by decide +kernel
theorem dX8_drawn_145 : decode cX8_drawn 145 = .ok (.getfield 94, 3) := by decide +kernel
theorem dX8_drawn_148 : decode cX8_drawn 148 = .ok (.irem, 1) := by decide +kernel
theorem dX8_drawn_149 : decode cX8_drawn 149 = .ok (.istore 8, 2) := by decide +kernel
theorem dX8_drawn_151 : decode cX8_drawn 151 = .ok (.aload_n 0, 1) := by decide +kernel
theorem dX8_drawn_152 : decode cX8_drawn 152 = .ok (.iload 8, 2) := by decide +kernel
theorem dX8_drawn_154 : decode cX8_drawn 154 = .ok (.invokevirtual 234, 3) := by decide +kernel
theorem dX8_drawn_157 : decode cX8_drawn 157 = .ok (.istore 9, 2) := by decide +kernel
theorem dX8_drawn_159 : decode cX8_drawn 159 = .ok (.iload_n 3, 1) := by decide +kernel
theorem dX8_drawn_160 : decode cX8_drawn 160 = .ok (.iconst (-1), 1) := by decide +kernel
theorem dX8_drawn_161 : decode cX8_drawn 161 = .ok (.if_icmp .ne 13, 3) := by decide +kernel
theorem dX8_drawn_164 : decode cX8_drawn 164 = .ok (.iload 5, 2) := by decide +kernel
theorem dX8_drawn_166 : decode cX8_drawn 166 = .ok (.iload 9, 2) := by decide +kernel
theorem dX8_drawn_168 : decode cX8_drawn 168 = .ok (.iadd, 1) := by decide +kernel
theorem dX8_drawn_169 : decode cX8_drawn 169 = .ok (.istore 5, 2) := by decide +kernel
theorem dX8_drawn_171 : decode cX8_drawn 171 = .ok (.goto 12, 3) := by decide +kernel
theorem dX8_drawn_174 : decode cX8_drawn 174 = .ok (.iload 8, 2) := by decide +kernel
theorem dX8_drawn_176 : decode cX8_drawn 176 = .ok (.iload_n 3, 1) := by decide +kernel
theorem dX8_drawn_177 : decode cX8_drawn 177 = .ok (.if_icmp .ne 6, 3) := by decide +kernel
theorem dX8_drawn_180 : decode cX8_drawn 180 = .ok (.iinc 5 1, 3) := by decide +kernel
theorem dX8_drawn_183 : decode cX8_drawn 183 = .ok (.iinc 7 1, 3) := by decide +kernel
theorem dX8_drawn_186 : decode cX8_drawn 186 = .ok (.goto (-98), 3) := by decide +kernel
theorem dX8_drawn_189 : decode cX8_drawn 189 = .ok (.aload_n 0, 1) := by decide +kernel
theorem dX8_drawn_190 : decode cX8_drawn 190 = .ok (.aload_n 0, 1) := by decide +kernel
theorem dX8_drawn_191 : decode cX8_drawn 191 = .ok (.getfield 82, 3) := by decide +kernel
theorem dX8_drawn_194 : decode cX8_drawn 194 = .ok (.invokevirtual 250, 3) := by decide +kernel
theorem dX8_drawn_197 : decode cX8_drawn 197 = .ok (.iinc 6 1, 3) := by decide +kernel
theorem dX8_drawn_200 : decode cX8_drawn 200 = .ok (.goto (-125), 3) := by decide +kernel
theorem dX8_drawn_203 : decode cX8_drawn 203 = .ok (.iload 5, 2) := by decide +kernel
theorem dX8_drawn_205 : decode cX8_drawn 205 = .ok (.ireturn, 1) := by decide +kernel
theorem dX8_day_0 : decode cX8_day 0 = .ok (.aload_n 0, 1) := by decide +kernel
theorem dX8_day_1 : decode cX8_day 1 = .ok (.iload_n 1, 1) := by decide +kernel
theorem dX8_day_2 : decode cX8_day 2 = .ok (.invokevirtual 116, 3) := by decide +kernel
theorem dX8_day_5 : decode cX8_day 5 = .ok (.ifCond .ne 11, 3) := by decide +kernel
theorem dX8_day_8 : decode cX8_day 8 = .ok (.iload_n 1, 1) := by decide +kernel
theorem dX8_day_9 : decode cX8_day 9 = .ok (.bipush 7, 2) := by decide +kernel
theorem dX8_day_11 : decode cX8_day 11 = .ok (.if_icmp .eq 5, 3) := by decide +kernel
theorem dX8_day_14 : decode cX8_day 14 = .ok (.iconst (-1), 1) := by decide +kernel
theorem dX8_day_15 : decode cX8_day 15 = .ok (.ireturn, 1) := by decide +kernel
theorem dX8_day_16 : decode cX8_day 16 = .ok (.aload_n 0, 1) := by decide +kernel
theorem dX8_day_17 : decode cX8_day 17 = .ok (.iload_n 1, 1) := by decide +kernel
theorem dX8_day_18 : decode cX8_day 18 = .ok (.invokevirtual 234, 3) := by decide +kernel
theorem dX8_day_21 : decode cX8_day 21 = .ok (.istore_n 2, 1) := by decide +kernel
theorem dX8_day_22 : decode cX8_day 22 = .ok (.aload_n 0, 1) := by decide +kernel
theorem dX8_day_23 : decode cX8_day 23 = .ok (.getfield 51, 3) := by decide +kernel
theorem dX8_day_26 : decode cX8_day 26 = .ok (.iconst 0, 1) := by decide +kernel
theorem dX8_day_27 : decode cX8_day 27 = .ok (.dup2, 1) := by decide +kernel
theorem dX8_day_28 : decode cX8_day 28 = .ok (.iaload, 1) := by decide +kernel
theorem dX8_day_29 : decode cX8_day 29 = .ok (.iconst 1, 1) := by decide +kernel
theorem dX8_day_30 : decode cX8_day 30 = .ok (.iadd, 1) := by decide +kernel
theorem dX8_day_31 : decode cX8_day 31 = .ok (.iastore, 1) := by decide +kernel
theorem dX8_day_32 : decode cX8_day 32 = .ok (.aload_n 0, 1) := by decide +kernel
theorem dX8_day_33 : decode cX8_day 33 = .ok (.getfield 51, 3) := by decide +kernel
theorem dX8_day_36 : decode cX8_day 36 = .ok (.iconst 1, 1) := by decide +kernel
theorem dX8_day_37 : decode cX8_day 37 = .ok (.dup2, 1) := by decide +kernel
theorem dX8_day_38 : decode cX8_day 38 = .ok (.iaload, 1) := by decide +kernel
theorem dX8_day_39 : decode cX8_day 39 = .ok (.iload_n 2, 1) := by decide +kernel
theorem dX8_day_40 : decode cX8_day 40 = .ok (.iadd, 1) := by decide +kernel
theorem dX8_day_41 : decode cX8_day 41 = .ok (.iastore, 1) := by decide +kernel
theorem dX8_day_42 : decode cX8_day 42 = .ok (.iload_n 2, 1) := by decide +kernel
theorem dX8_day_43 : decode cX8_day 43 = .ok (.ireturn, 1) := by decide +kernel
theorem dX8_tells_0 : decode cX8_tells 0 = .ok (.aload_n 0, 1) := by decide +kernel
theorem dX8_tells_1 : decode cX8_tells 1 = .ok (.iload_n 1, 1) := by decide +kernel
theorem dX8_tells_2 : decode cX8_tells 2 = .ok (.invokevirtual 116, 3) := by decide +kernel
theorem dX8_tells_5 : decode cX8_tells 5 = .ok (.ifCond .eq 16, 3) := by decide +kernel
theorem dX8_tells_8 : decode cX8_tells 8 = .ok (.aload_n 0, 1) := by decide +kernel
theorem dX8_tells_9 : decode cX8_tells 9 = .ok (.iload_n 2, 1) := by decide +kernel
theorem dX8_tells_10 : decode cX8_tells 10 = .ok (.invokevirtual 116, 3) := by decide +kernel
theorem dX8_tells_13 : decode cX8_tells 13 = .ok (.ifCond .eq 8, 3) := by decide +kernel
theorem dX8_tells_16 : decode cX8_tells 16 = .ok (.iload_n 1, 1) := by decide +kernel
theorem dX8_tells_17 : decode cX8_tells 17 = .ok (.iload_n 2, 1) := by decide +kernel
theorem dX8_tells_18 : decode cX8_tells 18 = .ok (.if_icmp .ne 5, 3) := by decide +kernel
theorem dX8_tells_21 : decode cX8_tells 21 = .ok (.iconst (-1), 1) := by decide +kernel
theorem dX8_tells_22 : decode cX8_tells 22 = .ok (.ireturn, 1) := by decide +kernel
theorem dX8_tells_23 : decode cX8_tells 23 = .ok (.aload_n 0, 1) := by decide +kernel
theorem dX8_tells_24 : decode cX8_tells 24 = .ok (.getfield 9, 3) := by decide +kernel
theorem dX8_tells_27 : decode cX8_tells 27 = .ok (.bipush 14, 2) := by decide +kernel
theorem dX8_tells_29 : decode cX8_tells 29 = .ok (.iload_n 2, 1) := by decide +kernel
theorem dX8_tells_30 : decode cX8_tells 30 = .ok (.iadd, 1) := by decide +kernel
theorem dX8_tells_31 : decode cX8_tells 31 = .ok (.iaload, 1) := by decide +kernel
theorem dX8_tells_32 : decode cX8_tells 32 = .ok (.istore_n 3, 1) := by decide +kernel
theorem dX8_tells_33 : decode cX8_tells 33 = .ok (.aload_n 0, 1) := by decide +kernel
theorem dX8_tells_34 : decode cX8_tells 34 = .ok (.getfield 9, 3) := by decide +kernel
theorem dX8_tells_37 : decode cX8_tells 37 = .ok (.bipush 14, 2) := by decide +kernel
theorem dX8_tells_39 : decode cX8_tells 39 = .ok (.iload_n 2, 1) := by decide +kernel
theorem dX8_tells_40 : decode cX8_tells 40 = .ok (.iadd, 1) := by decide +kernel
theorem dX8_tells_41 : decode cX8_tells 41 = .ok (.dup2, 1) := by decide +kernel
theorem dX8_tells_42 : decode cX8_tells 42 = .ok (.iaload, 1) := by decide +kernel
theorem dX8_tells_43 : decode cX8_tells 43 = .ok (.aload_n 0, 1) := by decide +kernel
theorem dX8_tells_44 : decode cX8_tells 44 = .ok (.getfield 9, 3) := by decide +kernel
theorem dX8_tells_47 : decode cX8_tells 47 = .ok (.bipush 14, 2) := by decide +kernel
theorem dX8_tells_49 : decode cX8_tells 49 = .ok (.iload_n 1, 1) := by decide +kernel
theorem dX8_tells_50 : decode cX8_tells 50 = .ok (.iadd, 1) := by decide +kernel
theorem dX8_tells_51 : decode cX8_tells 51 = .ok (.iaload, 1) := by decide +kernel
theorem dX8_tells_52 : decode cX8_tells 52 = .ok (.ior, 1) := by decide +kernel
theorem dX8_tells_53 : decode cX8_tells 53 = .ok (.iastore, 1) := by decide +kernel
theorem dX8_tells_54 : decode cX8_tells 54 = .ok (.aload_n 0, 1) := by decide +kernel
theorem dX8_tells_55 : decode cX8_tells 55 = .ok (.getfield 51, 3) := by decide +kernel
theorem dX8_tells_58 : decode cX8_tells 58 = .ok (.iconst 2, 1) := by decide +kernel
theorem dX8_tells_59 : decode cX8_tells 59 = .ok (.dup2, 1) := by decide +kernel
theorem dX8_tells_60 : decode cX8_tells 60 = .ok (.iaload, 1) := by decide +kernel
theorem dX8_tells_61 : decode cX8_tells 61 = .ok (.iconst 1, 1) := by decide +kernel
theorem dX8_tells_62 : decode cX8_tells 62 = .ok (.iadd, 1) := by decide +kernel
theorem dX8_tells_63 : decode cX8_tells 63 = .ok (.iastore, 1) := by decide +kernel
theorem dX8_tells_64 : decode cX8_tells 64 = .ok (.aload_n 0, 1) := by decide +kernel
theorem dX8_tells_65 : decode cX8_tells 65 = .ok (.getfield 9, 3) := by decide +kernel
theorem dX8_tells_68 : decode cX8_tells 68 = .ok (.bipush 14, 2) := by decide +kernel
theorem dX8_tells_70 : decode cX8_tells 70 = .ok (.iload_n 2, 1) := by decide +kernel
theorem dX8_tells_71 : decode cX8_tells 71 = .ok (.iadd, 1) := by decide +kernel
theorem dX8_tells_72 : decode cX8_tells 72 = .ok (.iaload, 1) := by decide +kernel
theorem dX8_tells_73 : decode cX8_tells 73 = .ok (.iload_n 3, 1) := by decide +kernel
theorem dX8_tells_74 : decode cX8_tells 74 = .ok (.iconst (-1), 1) := by decide +kernel
theorem dX8_tells_75 : decode cX8_tells 75 = .ok (.ixor, 1) := by decide +kernel
theorem dX8_tells_76 : decode cX8_tells 76 = .ok (.iand, 1) := by decide +kernel
theorem dX8_tells_77 : decode cX8_tells 77 = .ok (.invokestatic 209, 3) := by decide +kernel
theorem dX8_tells_80 : decode cX8_tells 80 = .ok (.ireturn, 1) := by decide +kernel
theorem dX8_pays_0 : decode cX8_pays 0 = .ok (.aload_n 0, 1) := by decide +kernel
theorem dX8_pays_1 : decode cX8_pays 1 = .ok (.iload_n 1, 1) := by decide +kernel
theorem dX8_pays_2 : decode cX8_pays 2 = .ok (.invokevirtual 116, 3) := by decide +kernel
theorem dX8_pays_5 : decode cX8_pays 5 = .ok (.ifCond .eq 26, 3) := by decide +kernel
theorem dX8_pays_8 : decode cX8_pays 8 = .ok (.aload_n 0, 1) := by decide +kernel
theorem dX8_pays_9 : decode cX8_pays 9 = .ok (.iload_n 2, 1) := by decide +kernel
theorem dX8_pays_10 : decode cX8_pays 10 = .ok (.invokevirtual 116, 3) := by decide +kernel
theorem dX8_pays_13 : decode cX8_pays 13 = .ok (.ifCond .eq 18, 3) := by decide +kernel
theorem dX8_pays_16 : decode cX8_pays 16 = .ok (.iload_n 1, 1) := by decide +kernel
theorem dX8_pays_17 : decode cX8_pays 17 = .ok (.iload_n 2, 1) := by decide +kernel
theorem dX8_pays_18 : decode cX8_pays 18 = .ok (.if_icmp .eq 13, 3) := by decide +kernel
theorem dX8_pays_21 : decode cX8_pays 21 = .ok (.iload_n 3, 1) := by decide +kernel
theorem dX8_pays_22 : decode cX8_pays 22 = .ok (.iconst 1, 1) := by decide +kernel
theorem dX8_pays_23 : decode cX8_pays 23 = .ok (.bipush 99, 2) := by decide +kernel
theorem dX8_pays_25 : decode cX8_pays 25 = .ok (.invokestatic 98, 3) := by decide +kernel
theorem dX8_pays_28 : decode cX8_pays 28 = .ok (.ifCond .ne 5, 3) := by decide +kernel
theorem dX8_pays_31 : decode cX8_pays 31 = .ok (.iconst (-1), 1) := by decide +kernel
theorem dX8_pays_32 : decode cX8_pays 32 = .ok (.ireturn, 1) := by decide +kernel
theorem dX8_pays_33 : decode cX8_pays 33 = .ok (.aload_n 0, 1) := by decide +kernel
theorem dX8_pays_34 : decode cX8_pays 34 = .ok (.getfield 9, 3) := by decide +kernel
theorem dX8_pays_37 : decode cX8_pays 37 = .ok (.bipush 7, 2) := by decide +kernel
theorem dX8_pays_39 : decode cX8_pays 39 = .ok (.iload_n 1, 1) := by decide +kernel
theorem dX8_pays_40 : decode cX8_pays 40 = .ok (.iadd, 1) := by decide +kernel
theorem dX8_pays_41 : decode cX8_pays 41 = .ok (.iaload, 1) := by decide +kernel
theorem dX8_pays_42 : decode cX8_pays 42 = .ok (.iload_n 3, 1) := by decide +kernel
theorem dX8_pays_43 : decode cX8_pays 43 = .ok (.if_icmp .lt 16, 3) := by decide +kernel
theorem dX8_pays_46 : decode cX8_pays 46 = .ok (.aload_n 0, 1) := by decide +kernel
theorem dX8_pays_47 : decode cX8_pays 47 = .ok (.getfield 9, 3) := by decide +kernel
theorem dX8_pays_50 : decode cX8_pays 50 = .ok (.bipush 7, 2) := by decide +kernel
theorem dX8_pays_52 : decode cX8_pays 52 = .ok (.iload_n 2, 1) := by decide +kernel
theorem dX8_pays_53 : decode cX8_pays 53 = .ok (.iadd, 1) := by decide +kernel
theorem dX8_pays_54 : decode cX8_pays 54 = .ok (.iaload, 1) := by decide +kernel
theorem dX8_pays_55 : decode cX8_pays 55 = .ok (.iload_n 3, 1) := by decide +kernel
theorem dX8_pays_56 : decode cX8_pays 56 = .ok (.if_icmp .ge 6, 3) := by decide +kernel
theorem dX8_pays_59 : decode cX8_pays 59 = .ok (.bipush (-5), 2) := by decide +kernel
theorem dX8_pays_61 : decode cX8_pays 61 = .ok (.ireturn, 1) := by decide +kernel
theorem dX8_pays_62 : decode cX8_pays 62 = .ok (.aload_n 0, 1) := by decide +kernel
theorem dX8_pays_63 : decode cX8_pays 63 = .ok (.getfield 9, 3) := by decide +kernel
theorem dX8_pays_66 : decode cX8_pays 66 = .ok (.bipush 7, 2) := by decide +kernel
theorem dX8_pays_68 : decode cX8_pays 68 = .ok (.iload_n 1, 1) := by decide +kernel
theorem dX8_pays_69 : decode cX8_pays 69 = .ok (.iadd, 1) := by decide +kernel
theorem dX8_pays_70 : decode cX8_pays 70 = .ok (.dup2, 1) := by decide +kernel
theorem dX8_pays_71 : decode cX8_pays 71 = .ok (.iaload, 1) := by decide +kernel
theorem dX8_pays_72 : decode cX8_pays 72 = .ok (.iload_n 3, 1) := by decide +kernel
theorem dX8_pays_73 : decode cX8_pays 73 = .ok (.isub, 1) := by decide +kernel
theorem dX8_pays_74 : decode cX8_pays 74 = .ok (.iastore, 1) := by decide +kernel
theorem dX8_pays_75 : decode cX8_pays 75 = .ok (.aload_n 0, 1) := by decide +kernel
theorem dX8_pays_76 : decode cX8_pays 76 = .ok (.getfield 9, 3) := by decide +kernel
theorem dX8_pays_79 : decode cX8_pays 79 = .ok (.bipush 7, 2) := by decide +kernel
theorem dX8_pays_81 : decode cX8_pays 81 = .ok (.iload_n 2, 1) := by decide +kernel
theorem dX8_pays_82 : decode cX8_pays 82 = .ok (.iadd, 1) := by decide +kernel
theorem dX8_pays_83 : decode cX8_pays 83 = .ok (.dup2, 1) := by decide +kernel
theorem dX8_pays_84 : decode cX8_pays 84 = .ok (.iaload, 1) := by decide +kernel
theorem dX8_pays_85 : decode cX8_pays 85 = .ok (.iload_n 3, 1) := by decide +kernel
theorem dX8_pays_86 : decode cX8_pays 86 = .ok (.isub, 1) := by decide +kernel
theorem dX8_pays_87 : decode cX8_pays 87 = .ok (.iastore, 1) := by decide +kernel
theorem dX8_pays_88 : decode cX8_pays 88 = .ok (.aload_n 0, 1) := by decide +kernel
theorem dX8_pays_89 : decode cX8_pays 89 = .ok (.getfield 51, 3) := by decide +kernel
theorem dX8_pays_92 : decode cX8_pays 92 = .ok (.iconst 3, 1) := by decide +kernel
theorem dX8_pays_93 : decode cX8_pays 93 = .ok (.dup2, 1) := by decide +kernel
theorem dX8_pays_94 : decode cX8_pays 94 = .ok (.iaload, 1) := by decide +kernel
theorem dX8_pays_95 : decode cX8_pays 95 = .ok (.iload_n 3, 1) := by decide +kernel
theorem dX8_pays_96 : decode cX8_pays 96 = .ok (.iadd, 1) := by decide +kernel
theorem dX8_pays_97 : decode cX8_pays 97 = .ok (.iastore, 1) := by decide +kernel
theorem dX8_pays_98 : decode cX8_pays 98 = .ok (.aload_n 0, 1) := by decide +kernel
theorem dX8_pays_99 : decode cX8_pays 99 = .ok (.getfield 9, 3) := by decide +kernel
theorem dX8_pays_102 : decode cX8_pays 102 = .ok (.bipush 7, 2) := by decide +kernel
theorem dX8_pays_104 : decode cX8_pays 104 = .ok (.iload_n 1, 1) := by decide +kernel
theorem dX8_pays_105 : decode cX8_pays 105 = .ok (.iadd, 1) := by decide +kernel
theorem dX8_pays_106 : decode cX8_pays 106 = .ok (.iaload, 1) := by decide +kernel
theorem dX8_pays_107 : decode cX8_pays 107 = .ok (.ireturn, 1) := by decide +kernel
theorem dX8_cobble_0 : decode cX8_cobble 0 = .ok (.aload_n 0, 1) := by decide +kernel
theorem dX8_cobble_1 : decode cX8_cobble 1 = .ok (.getfield 15, 3) := by decide +kernel
theorem dX8_cobble_4 : decode cX8_cobble 4 = .ok (.iconst 0, 1) := by decide +kernel
theorem dX8_cobble_5 : decode cX8_cobble 5 = .ok (.iaload, 1) := by decide +kernel
theorem dX8_cobble_6 : decode cX8_cobble 6 = .ok (.istore_n 1, 1) := by decide +kernel
theorem dX8_cobble_7 : decode cX8_cobble 7 = .ok (.aload_n 0, 1) := by decide +kernel
theorem dX8_cobble_8 : decode cX8_cobble 8 = .ok (.getfield 15, 3) := by decide +kernel
theorem dX8_cobble_11 : decode cX8_cobble 11 = .ok (.iconst 0, 1) := by decide +kernel
theorem dX8_cobble_12 : decode cX8_cobble 12 = .ok (.iconst 0, 1) := by decide +kernel
theorem dX8_cobble_13 : decode cX8_cobble 13 = .ok (.iastore, 1) := by decide +kernel
theorem dX8_cobble_14 : decode cX8_cobble 14 = .ok (.aload_n 0, 1) := by decide +kernel
theorem dX8_cobble_15 : decode cX8_cobble 15 = .ok (.getfield 51, 3) := by decide +kernel
theorem dX8_cobble_18 : decode cX8_cobble 18 = .ok (.iconst 4, 1) := by decide +kernel
theorem dX8_cobble_19 : decode cX8_cobble 19 = .ok (.dup2, 1) := by decide +kernel
theorem dX8_cobble_20 : decode cX8_cobble 20 = .ok (.iaload, 1) := by decide +kernel
theorem dX8_cobble_21 : decode cX8_cobble 21 = .ok (.iconst 1, 1) := by decide +kernel
theorem dX8_cobble_22 : decode cX8_cobble 22 = .ok (.iadd, 1) := by decide +kernel
theorem dX8_cobble_23 : decode cX8_cobble 23 = .ok (.iastore, 1) := by decide +kernel
theorem dX8_cobble_24 : decode cX8_cobble 24 = .ok (.iload_n 1, 1) := by decide +kernel
theorem dX8_cobble_25 : decode cX8_cobble 25 = .ok (.ireturn, 1) := by decide +kernel
theorem dX8_led_0 : decode cX8_led 0 = .ok (.iload_n 1, 1) := by decide +kernel
theorem dX8_led_1 : decode cX8_led 1 = .ok (.iconst 0, 1) := by decide +kernel
theorem dX8_led_2 : decode cX8_led 2 = .ok (.iconst 4, 1) := by decide +kernel
theorem dX8_led_3 : decode cX8_led 3 = .ok (.invokestatic 98, 3) := by decide +kernel
theorem dX8_led_6 : decode cX8_led 6 = .ok (.ifCond .eq 12, 3) := by decide +kernel
theorem dX8_led_9 : decode cX8_led 9 = .ok (.aload_n 0, 1) := by decide +kernel
theorem dX8_led_10 : decode cX8_led 10 = .ok (.getfield 51, 3) := by decide +kernel
theorem dX8_led_13 : decode cX8_led 13 = .ok (.iload_n 1, 1) := by decide +kernel
theorem dX8_led_14 : decode cX8_led 14 = .ok (.iaload, 1) := by decide +kernel
theorem dX8_led_15 : decode cX8_led 15 = .ok (.goto 4, 3) := by decide +kernel
theorem dX8_led_18 : decode cX8_led 18 = .ok (.iconst (-1), 1) := by decide +kernel
theorem dX8_led_19 : decode cX8_led 19 = .ok (.ireturn, 1) := by decide +kernel
theorem dX8_image_0 : decode cX8_image 0 = .ok (.aload_n 0, 1) := by decide +kernel
theorem dX8_image_1 : decode cX8_image 1 = .ok (.iconst 1, 1) := by decide +kernel
theorem dX8_image_2 : decode cX8_image 2 = .ok (.putfield 298, 3) := by decide +kernel
theorem dX8_image_5 : decode cX8_image 5 = .ok (.aload_n 0, 1) := by decide +kernel
theorem dX8_image_6 : decode cX8_image 6 = .ok (.aload_n 0, 1) := by decide +kernel
theorem dX8_image_7 : decode cX8_image 7 = .ok (.getfield 94, 3) := by decide +kernel
theorem dX8_image_10 : decode cX8_image 10 = .ok (.putfield 301, 3) := by decide +kernel
theorem dX8_image_13 : decode cX8_image 13 = .ok (.aload_n 0, 1) := by decide +kernel
theorem dX8_image_14 : decode cX8_image 14 = .ok (.aload_n 0, 1) := by decide +kernel
theorem dX8_image_15 : decode cX8_image 15 = .ok (.getfield 54, 3) := by decide +kernel
theorem dX8_image_18 : decode cX8_image 18 = .ok (.invokevirtual 240, 3) := by decide +kernel
theorem dX8_image_21 : decode cX8_image 21 = .ok (.iconst 0, 1) := by decide +kernel
theorem dX8_image_22 : decode cX8_image 22 = .ok (.istore_n 1, 1) := by decide +kernel
theorem dX8_image_23 : decode cX8_image 23 = .ok (.iload_n 1, 1) := by decide +kernel
theorem dX8_image_24 : decode cX8_image 24 = .ok (.iconst 5, 1) := by decide +kernel
theorem dX8_image_25 : decode cX8_image 25 = .ok (.if_icmp .ge 21, 3) := by decide +kernel
theorem dX8_image_28 : decode cX8_image 28 = .ok (.aload_n 0, 1) := by decide +kernel
theorem dX8_image_29 : decode cX8_image 29 = .ok (.getfield 57, 3) := by decide +kernel
theorem dX8_image_32 : decode cX8_image 32 = .ok (.iload_n 1, 1) := by decide +kernel
theorem dX8_image_33 : decode cX8_image 33 = .ok (.aload_n 0, 1) := by decide +kernel
theorem dX8_image_34 : decode cX8_image 34 = .ok (.getfield 51, 3) := by decide +kernel
theorem dX8_image_37 : decode cX8_image 37 = .ok (.iload_n 1, 1) := by decide +kernel
theorem dX8_image_38 : decode cX8_image 38 = .ok (.iaload, 1) := by decide +kernel
theorem dX8_image_39 : decode cX8_image 39 = .ok (.iastore, 1) := by decide +kernel
theorem dX8_image_40 : decode cX8_image 40 = .ok (.iinc 1 1, 3) := by decide +kernel
theorem dX8_image_43 : decode cX8_image 43 = .ok (.goto (-20), 3) := by decide +kernel
theorem dX8_image_46 : decode cX8_image 46 = .ok (.aload_n 0, 1) := by decide +kernel
theorem dX8_image_47 : decode cX8_image 47 = .ok (.getfield 51, 3) := by decide +kernel
theorem dX8_image_50 : decode cX8_image 50 = .ok (.iconst 0, 1) := by decide +kernel
theorem dX8_image_51 : decode cX8_image 51 = .ok (.iaload, 1) := by decide +kernel
theorem dX8_image_52 : decode cX8_image 52 = .ok (.ireturn, 1) := by decide +kernel
theorem dX8_back_0 : decode cX8_back 0 = .ok (.aload_n 0, 1) := by decide +kernel
theorem dX8_back_1 : decode cX8_back 1 = .ok (.getfield 298, 3) := by decide +kernel
theorem dX8_back_4 : decode cX8_back 4 = .ok (.ifCond .ne 6, 3) := by decide +kernel
theorem dX8_back_7 : decode cX8_back 7 = .ok (.bipush (-5), 2) := by decide +kernel
theorem dX8_back_9 : decode cX8_back 9 = .ok (.ireturn, 1) := by decide +kernel
theorem dX8_back_10 : decode cX8_back 10 = .ok (.iconst 0, 1) := by decide +kernel
theorem dX8_back_11 : decode cX8_back 11 = .ok (.istore_n 1, 1) := by decide +kernel
theorem dX8_back_12 : decode cX8_back 12 = .ok (.iload_n 1, 1) := by decide +kernel
theorem dX8_back_13 : decode cX8_back 13 = .ok (.aload_n 0, 1) := by decide +kernel
theorem dX8_back_14 : decode cX8_back 14 = .ok (.getfield 301, 3) := by decide +kernel
theorem dX8_back_17 : decode cX8_back 17 = .ok (.if_icmp .ge 42, 3) := by decide +kernel
theorem dX8_back_20 : decode cX8_back 20 = .ok (.aload_n 0, 1) := by decide +kernel
theorem dX8_back_21 : decode cX8_back 21 = .ok (.getfield 9, 3) := by decide +kernel
theorem dX8_back_24 : decode cX8_back 24 = .ok (.bipush 7, 2) := by decide +kernel
theorem dX8_back_26 : decode cX8_back 26 = .ok (.iload_n 1, 1) := by decide +kernel
theorem dX8_back_27 : decode cX8_back 27 = .ok (.iadd, 1) := by decide +kernel
theorem dX8_back_28 : decode cX8_back 28 = .ok (.aload_n 0, 1) := by decide +kernel
theorem dX8_back_29 : decode cX8_back 29 = .ok (.getfield 54, 3) := by decide +kernel
theorem dX8_back_32 : decode cX8_back 32 = .ok (.iload_n 1, 1) := by decide +kernel
theorem dX8_back_33 : decode cX8_back 33 = .ok (.iaload, 1) := by decide +kernel
theorem dX8_back_34 : decode cX8_back 34 = .ok (.iastore, 1) := by decide +kernel
theorem dX8_back_35 : decode cX8_back 35 = .ok (.aload_n 0, 1) := by decide +kernel
theorem dX8_back_36 : decode cX8_back 36 = .ok (.getfield 9, 3) := by decide +kernel
theorem dX8_back_39 : decode cX8_back 39 = .ok (.bipush 14, 2) := by decide +kernel
theorem dX8_back_41 : decode cX8_back 41 = .ok (.iload_n 1, 1) := by decide +kernel
theorem dX8_back_42 : decode cX8_back 42 = .ok (.iadd, 1) := by decide +kernel
theorem dX8_back_43 : decode cX8_back 43 = .ok (.aload_n 0, 1) := by decide +kernel
theorem dX8_back_44 : decode cX8_back 44 = .ok (.getfield 54, 3) := by decide +kernel
theorem dX8_back_47 : decode cX8_back 47 = .ok (.bipush 7, 2) := by decide +kernel
theorem dX8_back_49 : decode cX8_back 49 = .ok (.iload_n 1, 1) := by decide +kernel
theorem dX8_back_50 : decode cX8_back 50 = .ok (.iadd, 1) := by decide +kernel
theorem dX8_back_51 : decode cX8_back 51 = .ok (.iaload, 1) := by decide +kernel
theorem dX8_back_52 : decode cX8_back 52 = .ok (.iastore, 1) := by decide +kernel
theorem dX8_back_53 : decode cX8_back 53 = .ok (.iinc 1 1, 3) := by decide +kernel
theorem dX8_back_56 : decode cX8_back 56 = .ok (.goto (-44), 3) := by decide +kernel
theorem dX8_back_59 : decode cX8_back 59 = .ok (.aload_n 0, 1) := by decide +kernel
theorem dX8_back_60 : decode cX8_back 60 = .ok (.getfield 15, 3) := by decide +kernel
theorem dX8_back_63 : decode cX8_back 63 = .ok (.iconst 0, 1) := by decide +kernel
theorem dX8_back_64 : decode cX8_back 64 = .ok (.aload_n 0, 1) := by decide +kernel
theorem dX8_back_65 : decode cX8_back 65 = .ok (.getfield 54, 3) := by decide +kernel
theorem dX8_back_68 : decode cX8_back 68 = .ok (.bipush 14, 2) := by decide +kernel
theorem dX8_back_70 : decode cX8_back 70 = .ok (.iaload, 1) := by decide +kernel
theorem dX8_back_71 : decode cX8_back 71 = .ok (.iastore, 1) := by decide +kernel
theorem dX8_back_72 : decode cX8_back 72 = .ok (.aload_n 0, 1) := by decide +kernel
theorem dX8_back_73 : decode cX8_back 73 = .ok (.getfield 15, 3) := by decide +kernel
theorem dX8_back_76 : decode cX8_back 76 = .ok (.iconst 1, 1) := by decide +kernel
theorem dX8_back_77 : decode cX8_back 77 = .ok (.aload_n 0, 1) := by decide +kernel
theorem dX8_back_78 : decode cX8_back 78 = .ok (.getfield 54, 3) := by decide +kernel
theorem dX8_back_81 : decode cX8_back 81 = .ok (.bipush 15, 2) := by decide +kernel
theorem dX8_back_83 : decode cX8_back 83 = .ok (.iaload, 1) := by decide +kernel
theorem dX8_back_84 : decode cX8_back 84 = .ok (.iastore, 1) := by decide +kernel
theorem dX8_back_85 : decode cX8_back 85 = .ok (.iconst 0, 1) := by decide +kernel
theorem dX8_back_86 : decode cX8_back 86 = .ok (.istore_n 1, 1) := by decide +kernel
theorem dX8_back_87 : decode cX8_back 87 = .ok (.iload_n 1, 1) := by decide +kernel
theorem dX8_back_88 : decode cX8_back 88 = .ok (.iconst 5, 1) := by decide +kernel
theorem dX8_back_89 : decode cX8_back 89 = .ok (.if_icmp .ge 21, 3) := by decide +kernel
theorem dX8_back_92 : decode cX8_back 92 = .ok (.aload_n 0, 1) := by decide +kernel
theorem dX8_back_93 : decode cX8_back 93 = .ok (.getfield 51, 3) := by decide +kernel
theorem dX8_back_96 : decode cX8_back 96 = .ok (.iload_n 1, 1) := by decide +kernel
theorem dX8_back_97 : decode cX8_back 97 = .ok (.aload_n 0, 1) := by decide +kernel
theorem dX8_back_98 : decode cX8_back 98 = .ok (.getfield 57, 3) := by decide +kernel
theorem dX8_back_101 : decode cX8_back 101 = .ok (.iload_n 1, 1) := by decide +kernel
theorem dX8_back_102 : decode cX8_back 102 = .ok (.iaload, 1) := by decide +kernel
theorem dX8_back_103 : decode cX8_back 103 = .ok (.iastore, 1) := by decide +kernel
theorem dX8_back_104 : decode cX8_back 104 = .ok (.iinc 1 1, 3) := by decide +kernel
theorem dX8_back_107 : decode cX8_back 107 = .ok (.goto (-20), 3) := by decide +kernel
theorem dX8_back_110 : decode cX8_back 110 = .ok (.aload_n 0, 1) := by decide +kernel
theorem dX8_back_111 : decode cX8_back 111 = .ok (.getfield 51, 3) := by decide +kernel
theorem dX8_back_114 : decode cX8_back 114 = .ok (.iconst 0, 1) := by decide +kernel
theorem dX8_back_115 : decode cX8_back 115 = .ok (.iaload, 1) := by decide +kernel
theorem dX8_back_116 : decode cX8_back 116 = .ok (.ireturn, 1) := by decide +kernel
theorem dX8_above_0 : decode cX8_above 0 = .ok (.iload_n 0, 1) := by decide +kernel
theorem dX8_above_1 : decode cX8_above 1 = .ok (.tableswitch 43 3 7 #[35, 37, 39, 43, 41], 35) := by decide +kernel
theorem dX8_above_36 : decode cX8_above 36 = .ok (.iconst 2, 1) := by decide +kernel
theorem dX8_above_37 : decode cX8_above 37 = .ok (.ireturn, 1) := by decide +kernel
theorem dX8_above_38 : decode cX8_above 38 = .ok (.iconst 1, 1) := by decide +kernel
theorem dX8_above_39 : decode cX8_above 39 = .ok (.ireturn, 1) := by decide +kernel
theorem dX8_above_40 : decode cX8_above 40 = .ok (.iconst 3, 1) := by decide +kernel
theorem dX8_above_41 : decode cX8_above 41 = .ok (.ireturn, 1) := by decide +kernel
theorem dX8_above_42 : decode cX8_above 42 = .ok (.iconst 4, 1) := by decide +kernel
theorem dX8_above_43 : decode cX8_above 43 = .ok (.ireturn, 1) := by decide +kernel
theorem dX8_above_44 : decode cX8_above 44 = .ok (.iconst 0, 1) := by decide +kernel
theorem dX8_above_45 : decode cX8_above 45 = .ok (.ireturn, 1) := by decide +kernel
theorem dX8_ran_0 : decode cX8_ran 0 = .ok (.aload_n 0, 1) := by decide +kernel
theorem dX8_ran_1 : decode cX8_ran 1 = .ok (.getfield 304, 3) := by decide +kernel
theorem dX8_ran_4 : decode cX8_ran 4 = .ok (.bipush 24, 2) := by decide +kernel
theorem dX8_ran_6 : decode cX8_ran 6 = .ok (.if_icmp .ge 13, 3) := by decide +kernel
theorem dX8_ran_9 : decode cX8_ran 9 = .ok (.aload_n 0, 1) := by decide +kernel
theorem dX8_ran_10 : decode cX8_ran 10 = .ok (.getfield 66, 3) := by decide +kernel
theorem dX8_ran_13 : decode cX8_ran 13 = .ok (.aload_n 0, 1) := by decide +kernel
theorem dX8_ran_14 : decode cX8_ran 14 = .ok (.getfield 304, 3) := by decide +kernel
theorem dX8_ran_17 : decode cX8_ran 17 = .ok (.iload_n 1, 1) := by decide +kernel
theorem dX8_ran_18 : decode cX8_ran 18 = .ok (.iastore, 1) := by decide +kernel
theorem dX8_ran_19 : decode cX8_ran 19 = .ok (.aload_n 0, 1) := by decide +kernel
theorem dX8_ran_20 : decode cX8_ran 20 = .ok (.dup, 1) := by decide +kernel
theorem dX8_ran_21 : decode cX8_ran 21 = .ok (.getfield 304, 3) := by decide +kernel
theorem dX8_ran_24 : decode cX8_ran 24 = .ok (.iconst 1, 1) := by decide +kernel
theorem dX8_ran_25 : decode cX8_ran 25 = .ok (.iadd, 1) := by decide +kernel
theorem dX8_ran_26 : decode cX8_ran 26 = .ok (.putfield 304, 3) := by decide +kernel
theorem dX8_ran_29 : decode cX8_ran 29 = .ok (.return_, 1) := by decide +kernel
theorem dX8_walksBy_0 : decode cX8_walksBy 0 = .ok (.iload_n 2, 1) := by decide +kernel
theorem dX8_walksBy_1 : decode cX8_walksBy 1 = .ok (.lookupswitch 76 #[(0, 35), (1, 44), (6, 60)], 35) := by decide +kernel
theorem dX8_walksBy_36 : decode cX8_walksBy 36 = .ok (.aload_n 0, 1) := by decide +kernel
theorem dX8_walksBy_37 : decode cX8_walksBy 37 = .ok (.iconst 1, 1) := by decide +kernel
theorem dX8_walksBy_38 : decode cX8_walksBy 38 = .ok (.invokevirtual 307, 3) := by decide +kernel
theorem dX8_walksBy_41 : decode cX8_walksBy 41 = .ok (.iload_n 3, 1) := by decide +kernel
theorem dX8_walksBy_42 : decode cX8_walksBy 42 = .ok (.iload_n 1, 1) := by decide +kernel
theorem dX8_walksBy_43 : decode cX8_walksBy 43 = .ok (.iadd, 1) := by decide +kernel
theorem dX8_walksBy_44 : decode cX8_walksBy 44 = .ok (.ireturn, 1) := by decide +kernel
theorem dX8_walksBy_45 : decode cX8_walksBy 45 = .ok (.aload_n 0, 1) := by decide +kernel
theorem dX8_walksBy_46 : decode cX8_walksBy 46 = .ok (.bipush 20, 2) := by decide +kernel
theorem dX8_walksBy_48 : decode cX8_walksBy 48 = .ok (.invokevirtual 307, 3) := by decide +kernel
theorem dX8_walksBy_51 : decode cX8_walksBy 51 = .ok (.aload_n 0, 1) := by decide +kernel
theorem dX8_walksBy_52 : decode cX8_walksBy 52 = .ok (.iload_n 1, 1) := by decide +kernel
theorem dX8_walksBy_53 : decode cX8_walksBy 53 = .ok (.iconst 0, 1) := by decide +kernel
theorem dX8_walksBy_54 : decode cX8_walksBy 54 = .ok (.iload_n 3, 1) := by decide +kernel
theorem dX8_walksBy_55 : decode cX8_walksBy 55 = .ok (.invokevirtual 311, 3) := by decide +kernel
theorem dX8_walksBy_58 : decode cX8_walksBy 58 = .ok (.iconst 3, 1) := by decide +kernel
theorem dX8_walksBy_59 : decode cX8_walksBy 59 = .ok (.iadd, 1) := by decide +kernel
theorem dX8_walksBy_60 : decode cX8_walksBy 60 = .ok (.ireturn, 1) := by decide +kernel
theorem dX8_walksBy_61 : decode cX8_walksBy 61 = .ok (.aload_n 0, 1) := by decide +kernel
theorem dX8_walksBy_62 : decode cX8_walksBy 62 = .ok (.bipush 70, 2) := by decide +kernel
theorem dX8_walksBy_64 : decode cX8_walksBy 64 = .ok (.invokevirtual 307, 3) := by decide +kernel
theorem dX8_walksBy_67 : decode cX8_walksBy 67 = .ok (.aload_n 0, 1) := by decide +kernel
theorem dX8_walksBy_68 : decode cX8_walksBy 68 = .ok (.iload_n 1, 1) := by decide +kernel
theorem dX8_walksBy_69 : decode cX8_walksBy 69 = .ok (.iconst 0, 1) := by decide +kernel
theorem dX8_walksBy_70 : decode cX8_walksBy 70 = .ok (.iload_n 3, 1) := by decide +kernel
theorem dX8_walksBy_71 : decode cX8_walksBy 71 = .ok (.invokevirtual 311, 3) := by decide +kernel
theorem dX8_walksBy_74 : decode cX8_walksBy 74 = .ok (.iconst 2, 1) := by decide +kernel
theorem dX8_walksBy_75 : decode cX8_walksBy 75 = .ok (.imul, 1) := by decide +kernel
theorem dX8_walksBy_76 : decode cX8_walksBy 76 = .ok (.ireturn, 1) := by decide +kernel
theorem dX8_walksBy_77 : decode cX8_walksBy 77 = .ok (.aload_n 0, 1) := by decide +kernel
theorem dX8_walksBy_78 : decode cX8_walksBy 78 = .ok (.iload_n 1, 1) := by decide +kernel
theorem dX8_walksBy_79 : decode cX8_walksBy 79 = .ok (.iload_n 2, 1) := by decide +kernel
theorem dX8_walksBy_80 : decode cX8_walksBy 80 = .ok (.invokestatic 314, 3) := by decide +kernel
theorem dX8_walksBy_83 : decode cX8_walksBy 83 = .ok (.iload_n 3, 1) := by decide +kernel
theorem dX8_walksBy_84 : decode cX8_walksBy 84 = .ok (.invokevirtual 311, 3) := by decide +kernel
theorem dX8_walksBy_87 : decode cX8_walksBy 87 = .ok (.ireturn, 1) := by decide +kernel
theorem dX8_owesBy_0 : decode cX8_owesBy 0 = .ok (.iload_n 2, 1) := by decide +kernel
theorem dX8_owesBy_1 : decode cX8_owesBy 1 = .ok (.tableswitch 92 0 4 #[35, 92, 92, 45, 61], 35) := by decide +kernel
theorem dX8_owesBy_36 : decode cX8_owesBy 36 = .ok (.aload_n 0, 1) := by decide +kernel
theorem dX8_owesBy_37 : decode cX8_owesBy 37 = .ok (.bipush 11, 2) := by decide +kernel
theorem dX8_owesBy_39 : decode cX8_owesBy 39 = .ok (.invokevirtual 307, 3) := by decide +kernel
theorem dX8_owesBy_42 : decode cX8_owesBy 42 = .ok (.iload_n 3, 1) := by decide +kernel
theorem dX8_owesBy_43 : decode cX8_owesBy 43 = .ok (.iload_n 1, 1) := by decide +kernel
theorem dX8_owesBy_44 : decode cX8_owesBy 44 = .ok (.ixor, 1) := by decide +kernel
theorem dX8_owesBy_45 : decode cX8_owesBy 45 = .ok (.ireturn, 1) := by decide +kernel
theorem dX8_owesBy_46 : decode cX8_owesBy 46 = .ok (.aload_n 0, 1) := by decide +kernel
theorem dX8_owesBy_47 : decode cX8_owesBy 47 = .ok (.bipush 40, 2) := by decide +kernel
theorem dX8_owesBy_49 : decode cX8_owesBy 49 = .ok (.invokevirtual 307, 3) := by decide +kernel
theorem dX8_owesBy_52 : decode cX8_owesBy 52 = .ok (.aload_n 0, 1) := by decide +kernel
theorem dX8_owesBy_53 : decode cX8_owesBy 53 = .ok (.iload_n 1, 1) := by decide +kernel
theorem dX8_owesBy_54 : decode cX8_owesBy 54 = .ok (.iconst 2, 1) := by decide +kernel
theorem dX8_owesBy_55 : decode cX8_owesBy 55 = .ok (.iload_n 3, 1) := by decide +kernel
theorem dX8_owesBy_56 : decode cX8_owesBy 56 = .ok (.invokevirtual 320, 3) := by decide +kernel
theorem dX8_owesBy_59 : decode cX8_owesBy 59 = .ok (.iconst 3, 1) := by decide +kernel
theorem dX8_owesBy_60 : decode cX8_owesBy 60 = .ok (.imul, 1) := by decide +kernel
theorem dX8_owesBy_61 : decode cX8_owesBy 61 = .ok (.ireturn, 1) := by decide +kernel
theorem dX8_owesBy_62 : decode cX8_owesBy 62 = .ok (.aload_n 0, 1) := by decide +kernel
theorem dX8_owesBy_63 : decode cX8_owesBy 63 = .ok (.bipush 50, 2) := by decide +kernel
theorem dX8_owesBy_65 : decode cX8_owesBy 65 = .ok (.invokevirtual 307, 3) := by decide +kernel
theorem dX8_owesBy_68 : decode cX8_owesBy 68 = .ok (.aload_n 0, 1) := by decide +kernel
theorem dX8_owesBy_69 : decode cX8_owesBy 69 = .ok (.iload_n 1, 1) := by decide +kernel
theorem dX8_owesBy_70 : decode cX8_owesBy 70 = .ok (.iconst 1, 1) := by decide +kernel
theorem dX8_owesBy_71 : decode cX8_owesBy 71 = .ok (.iload_n 3, 1) := by decide +kernel
theorem dX8_owesBy_72 : decode cX8_owesBy 72 = .ok (.invokevirtual 320, 3) := by decide +kernel
theorem dX8_owesBy_75 : decode cX8_owesBy 75 = .ok (.istore 4, 2) := by decide +kernel
theorem dX8_owesBy_77 : decode cX8_owesBy 77 = .ok (.iload 4, 2) := by decide +kernel
theorem dX8_owesBy_79 : decode cX8_owesBy 79 = .ok (.aload_n 0, 1) := by decide +kernel
theorem dX8_owesBy_80 : decode cX8_owesBy 80 = .ok (.iload_n 1, 1) := by decide +kernel
theorem dX8_owesBy_81 : decode cX8_owesBy 81 = .ok (.aload_n 0, 1) := by decide +kernel
theorem dX8_owesBy_82 : decode cX8_owesBy 82 = .ok (.getfield 63, 3) := by decide +kernel
theorem dX8_owesBy_85 : decode cX8_owesBy 85 = .ok (.iload_n 1, 1) := by decide +kernel
theorem dX8_owesBy_86 : decode cX8_owesBy 86 = .ok (.iaload, 1) := by decide +kernel
theorem dX8_owesBy_87 : decode cX8_owesBy 87 = .ok (.iconst 2, 1) := by decide +kernel
theorem dX8_owesBy_88 : decode cX8_owesBy 88 = .ok (.invokevirtual 311, 3) := by decide +kernel
theorem dX8_owesBy_91 : decode cX8_owesBy 91 = .ok (.isub, 1) := by decide +kernel
theorem dX8_owesBy_92 : decode cX8_owesBy 92 = .ok (.ireturn, 1) := by decide +kernel
theorem dX8_owesBy_93 : decode cX8_owesBy 93 = .ok (.aload_n 0, 1) := by decide +kernel
theorem dX8_owesBy_94 : decode cX8_owesBy 94 = .ok (.iload_n 1, 1) := by decide +kernel
theorem dX8_owesBy_95 : decode cX8_owesBy 95 = .ok (.iload_n 2, 1) := by decide +kernel
theorem dX8_owesBy_96 : decode cX8_owesBy 96 = .ok (.invokestatic 314, 3) := by decide +kernel
theorem dX8_owesBy_99 : decode cX8_owesBy 99 = .ok (.iload_n 3, 1) := by decide +kernel
theorem dX8_owesBy_100 : decode cX8_owesBy 100 = .ok (.invokevirtual 320, 3) := by decide +kernel
theorem dX8_owesBy_103 : decode cX8_owesBy 103 = .ok (.ireturn, 1) := by decide +kernel
theorem dX8_leansBy_0 : decode cX8_leansBy 0 = .ok (.iload_n 2, 1) := by decide +kernel
theorem dX8_leansBy_1 : decode cX8_leansBy 1 = .ok (.tableswitch 130 0 7 #[47, 130, 68, 83, 130, 130, 130, 99], 47) := by decide +kernel
theorem dX8_leansBy_48 : decode cX8_leansBy 48 = .ok (.aload_n 0, 1) := by decide +kernel
theorem dX8_leansBy_49 : decode cX8_leansBy 49 = .ok (.bipush 10, 2) := by decide +kernel
theorem dX8_leansBy_51 : decode cX8_leansBy 51 = .ok (.invokevirtual 307, 3) := by decide +kernel
theorem dX8_leansBy_54 : decode cX8_leansBy 54 = .ok (.aload_n 0, 1) := by decide +kernel
theorem dX8_leansBy_55 : decode cX8_leansBy 55 = .ok (.iload_n 1, 1) := by decide +kernel
theorem dX8_leansBy_56 : decode cX8_leansBy 56 = .ok (.aload_n 0, 1) := by decide +kernel
theorem dX8_leansBy_57 : decode cX8_leansBy 57 = .ok (.getfield 63, 3) := by decide +kernel
theorem dX8_leansBy_60 : decode cX8_leansBy 60 = .ok (.iload_n 1, 1) := by decide +kernel
theorem dX8_leansBy_61 : decode cX8_leansBy 61 = .ok (.iaload, 1) := by decide +kernel
theorem dX8_leansBy_62 : decode cX8_leansBy 62 = .ok (.iload_n 3, 1) := by decide +kernel
theorem dX8_leansBy_63 : decode cX8_leansBy 63 = .ok (.invokevirtual 311, 3) := by decide +kernel
theorem dX8_leansBy_66 : decode cX8_leansBy 66 = .ok (.iconst 2, 1) := by decide +kernel
theorem dX8_leansBy_67 : decode cX8_leansBy 67 = .ok (.imul, 1) := by decide +kernel
theorem dX8_leansBy_68 : decode cX8_leansBy 68 = .ok (.ireturn, 1) := by decide +kernel
theorem dX8_leansBy_69 : decode cX8_leansBy 69 = .ok (.aload_n 0, 1) := by decide +kernel
theorem dX8_leansBy_70 : decode cX8_leansBy 70 = .ok (.bipush 30, 2) := by decide +kernel
theorem dX8_leansBy_72 : decode cX8_leansBy 72 = .ok (.invokevirtual 307, 3) := by decide +kernel
theorem dX8_leansBy_75 : decode cX8_leansBy 75 = .ok (.aload_n 0, 1) := by decide +kernel
theorem dX8_leansBy_76 : decode cX8_leansBy 76 = .ok (.iload_n 1, 1) := by decide +kernel
theorem dX8_leansBy_77 : decode cX8_leansBy 77 = .ok (.iconst 0, 1) := by decide +kernel
theorem dX8_leansBy_78 : decode cX8_leansBy 78 = .ok (.iload_n 3, 1) := by decide +kernel
theorem dX8_leansBy_79 : decode cX8_leansBy 79 = .ok (.invokevirtual 317, 3) := by decide +kernel
theorem dX8_leansBy_82 : decode cX8_leansBy 82 = .ok (.ineg, 1) := by decide +kernel
theorem dX8_leansBy_83 : decode cX8_leansBy 83 = .ok (.ireturn, 1) := by decide +kernel
theorem dX8_leansBy_84 : decode cX8_leansBy 84 = .ok (.aload_n 0, 1) := by decide +kernel
theorem dX8_leansBy_85 : decode cX8_leansBy 85 = .ok (.bipush 41, 2) := by decide +kernel
theorem dX8_leansBy_87 : decode cX8_leansBy 87 = .ok (.invokevirtual 307, 3) := by decide +kernel
theorem dX8_leansBy_90 : decode cX8_leansBy 90 = .ok (.aload_n 0, 1) := by decide +kernel
theorem dX8_leansBy_91 : decode cX8_leansBy 91 = .ok (.iload_n 1, 1) := by decide +kernel
theorem dX8_leansBy_92 : decode cX8_leansBy 92 = .ok (.iconst 2, 1) := by decide +kernel
theorem dX8_leansBy_93 : decode cX8_leansBy 93 = .ok (.iload_n 3, 1) := by decide +kernel
theorem dX8_leansBy_94 : decode cX8_leansBy 94 = .ok (.iconst 1, 1) := by decide +kernel
theorem dX8_leansBy_95 : decode cX8_leansBy 95 = .ok (.iadd, 1) := by decide +kernel
theorem dX8_leansBy_96 : decode cX8_leansBy 96 = .ok (.invokevirtual 317, 3) := by decide +kernel
theorem dX8_leansBy_99 : decode cX8_leansBy 99 = .ok (.ireturn, 1) := by decide +kernel
theorem dX8_leansBy_100 : decode cX8_leansBy 100 = .ok (.aload_n 0, 1) := by decide +kernel
theorem dX8_leansBy_101 : decode cX8_leansBy 101 = .ok (.bipush 80, 2) := by decide +kernel
theorem dX8_leansBy_103 : decode cX8_leansBy 103 = .ok (.invokevirtual 307, 3) := by decide +kernel
theorem dX8_leansBy_106 : decode cX8_leansBy 106 = .ok (.aload_n 0, 1) := by decide +kernel
theorem dX8_leansBy_107 : decode cX8_leansBy 107 = .ok (.iload_n 1, 1) := by decide +kernel
theorem dX8_leansBy_108 : decode cX8_leansBy 108 = .ok (.iconst 4, 1) := by decide +kernel
theorem dX8_leansBy_109 : decode cX8_leansBy 109 = .ok (.iload_n 3, 1) := by decide +kernel
theorem dX8_leansBy_110 : decode cX8_leansBy 110 = .ok (.invokevirtual 317, 3) := by decide +kernel
theorem dX8_leansBy_113 : decode cX8_leansBy 113 = .ok (.istore 4, 2) := by decide +kernel
theorem dX8_leansBy_115 : decode cX8_leansBy 115 = .ok (.iload 4, 2) := by decide +kernel
theorem dX8_leansBy_117 : decode cX8_leansBy 117 = .ok (.aload_n 0, 1) := by decide +kernel
theorem dX8_leansBy_118 : decode cX8_leansBy 118 = .ok (.iload_n 1, 1) := by decide +kernel
theorem dX8_leansBy_119 : decode cX8_leansBy 119 = .ok (.aload_n 0, 1) := by decide +kernel
theorem dX8_leansBy_120 : decode cX8_leansBy 120 = .ok (.getfield 63, 3) := by decide +kernel
theorem dX8_leansBy_123 : decode cX8_leansBy 123 = .ok (.iload_n 1, 1) := by decide +kernel
theorem dX8_leansBy_124 : decode cX8_leansBy 124 = .ok (.iaload, 1) := by decide +kernel
theorem dX8_leansBy_125 : decode cX8_leansBy 125 = .ok (.iconst 2, 1) := by decide +kernel
theorem dX8_leansBy_126 : decode cX8_leansBy 126 = .ok (.invokevirtual 320, 3) := by decide +kernel
theorem dX8_leansBy_129 : decode cX8_leansBy 129 = .ok (.iadd, 1) := by decide +kernel
theorem dX8_leansBy_130 : decode cX8_leansBy 130 = .ok (.ireturn, 1) := by decide +kernel
theorem dX8_leansBy_131 : decode cX8_leansBy 131 = .ok (.aload_n 0, 1) := by decide +kernel
theorem dX8_leansBy_132 : decode cX8_leansBy 132 = .ok (.iload_n 1, 1) := by decide +kernel
theorem dX8_leansBy_133 : decode cX8_leansBy 133 = .ok (.iload_n 2, 1) := by decide +kernel
theorem dX8_leansBy_134 : decode cX8_leansBy 134 = .ok (.invokestatic 314, 3) := by decide +kernel
theorem dX8_leansBy_137 : decode cX8_leansBy 137 = .ok (.iload_n 3, 1) := by decide +kernel
theorem dX8_leansBy_138 : decode cX8_leansBy 138 = .ok (.invokevirtual 317, 3) := by decide +kernel
theorem dX8_leansBy_141 : decode cX8_leansBy 141 = .ok (.ireturn, 1) := by decide +kernel
theorem dX8_tells__0 : decode cX8_tells_ 0 = .ok (.iload_n 2, 1) := by decide +kernel
theorem dX8_tells__1 : decode cX8_tells_ 1 = .ok (.lookupswitch 102 #[(0, 35), (5, 70), (7, 86)], 35) := by decide +kernel
theorem dX8_tells__36 : decode cX8_tells_ 36 = .ok (.aload_n 0, 1) := by decide +kernel
theorem dX8_tells__37 : decode cX8_tells_ 37 = .ok (.iconst 2, 1) := by decide +kernel
theorem dX8_tells__38 : decode cX8_tells_ 38 = .ok (.invokevirtual 307, 3) := by decide +kernel
theorem dX8_tells__41 : decode cX8_tells_ 41 = .ok (.aload_n 0, 1) := by decide +kernel
theorem dX8_tells__42 : decode cX8_tells_ 42 = .ok (.iload_n 1, 1) := by decide +kernel
theorem dX8_tells__43 : decode cX8_tells_ 43 = .ok (.aload_n 0, 1) := by decide +kernel
theorem dX8_tells__44 : decode cX8_tells_ 44 = .ok (.getfield 63, 3) := by decide +kernel
theorem dX8_tells__47 : decode cX8_tells_ 47 = .ok (.iload_n 1, 1) := by decide +kernel
theorem dX8_tells__48 : decode cX8_tells_ 48 = .ok (.iaload, 1) := by decide +kernel
theorem dX8_tells__49 : decode cX8_tells_ 49 = .ok (.iload_n 3, 1) := by decide +kernel
theorem dX8_tells__50 : decode cX8_tells_ 50 = .ok (.invokevirtual 317, 3) := by decide +kernel
theorem dX8_tells__53 : decode cX8_tells_ 53 = .ok (.istore 4, 2) := by decide +kernel
theorem dX8_tells__55 : decode cX8_tells_ 55 = .ok (.iload 4, 2) := by decide +kernel
theorem dX8_tells__57 : decode cX8_tells_ 57 = .ok (.aload_n 0, 1) := by decide +kernel
theorem dX8_tells__58 : decode cX8_tells_ 58 = .ok (.iload_n 1, 1) := by decide +kernel
theorem dX8_tells__59 : decode cX8_tells_ 59 = .ok (.aload_n 0, 1) := by decide +kernel
theorem dX8_tells__60 : decode cX8_tells_ 60 = .ok (.getfield 63, 3) := by decide +kernel
theorem dX8_tells__63 : decode cX8_tells_ 63 = .ok (.iload_n 1, 1) := by decide +kernel
theorem dX8_tells__64 : decode cX8_tells_ 64 = .ok (.iaload, 1) := by decide +kernel
theorem dX8_tells__65 : decode cX8_tells_ 65 = .ok (.iconst 1, 1) := by decide +kernel
theorem dX8_tells__66 : decode cX8_tells_ 66 = .ok (.invokevirtual 320, 3) := by decide +kernel
theorem dX8_tells__69 : decode cX8_tells_ 69 = .ok (.isub, 1) := by decide +kernel
theorem dX8_tells__70 : decode cX8_tells_ 70 = .ok (.ireturn, 1) := by decide +kernel
theorem dX8_tells__71 : decode cX8_tells_ 71 = .ok (.aload_n 0, 1) := by decide +kernel
theorem dX8_tells__72 : decode cX8_tells_ 72 = .ok (.bipush 60, 2) := by decide +kernel
theorem dX8_tells__74 : decode cX8_tells_ 74 = .ok (.invokevirtual 307, 3) := by decide +kernel
theorem dX8_tells__77 : decode cX8_tells_ 77 = .ok (.aload_n 0, 1) := by decide +kernel
theorem dX8_tells__78 : decode cX8_tells_ 78 = .ok (.iload_n 1, 1) := by decide +kernel
theorem dX8_tells__79 : decode cX8_tells_ 79 = .ok (.iconst 3, 1) := by decide +kernel
theorem dX8_tells__80 : decode cX8_tells_ 80 = .ok (.iload_n 3, 1) := by decide +kernel
theorem dX8_tells__81 : decode cX8_tells_ 81 = .ok (.invokevirtual 323, 3) := by decide +kernel
theorem dX8_tells__84 : decode cX8_tells_ 84 = .ok (.iconst 5, 1) := by decide +kernel
theorem dX8_tells__85 : decode cX8_tells_ 85 = .ok (.ixor, 1) := by decide +kernel
theorem dX8_tells__86 : decode cX8_tells_ 86 = .ok (.ireturn, 1) := by decide +kernel
theorem dX8_tells__87 : decode cX8_tells_ 87 = .ok (.aload_n 0, 1) := by decide +kernel
theorem dX8_tells__88 : decode cX8_tells_ 88 = .ok (.bipush 81, 2) := by decide +kernel
theorem dX8_tells__90 : decode cX8_tells_ 90 = .ok (.invokevirtual 307, 3) := by decide +kernel
theorem dX8_tells__93 : decode cX8_tells_ 93 = .ok (.aload_n 0, 1) := by decide +kernel
theorem dX8_tells__94 : decode cX8_tells_ 94 = .ok (.iload_n 1, 1) := by decide +kernel
theorem dX8_tells__95 : decode cX8_tells_ 95 = .ok (.iconst 4, 1) := by decide +kernel
theorem dX8_tells__96 : decode cX8_tells_ 96 = .ok (.iload_n 3, 1) := by decide +kernel
theorem dX8_tells__97 : decode cX8_tells_ 97 = .ok (.invokevirtual 323, 3) := by decide +kernel
theorem dX8_tells__100 : decode cX8_tells_ 100 = .ok (.iconst 1, 1) := by decide +kernel
theorem dX8_tells__101 : decode cX8_tells_ 101 = .ok (.isub, 1) := by decide +kernel
theorem dX8_tells__102 : decode cX8_tells_ 102 = .ok (.ireturn, 1) := by decide +kernel
theorem dX8_tells__103 : decode cX8_tells_ 103 = .ok (.aload_n 0, 1) := by decide +kernel
theorem dX8_tells__104 : decode cX8_tells_ 104 = .ok (.iload_n 1, 1) := by decide +kernel
theorem dX8_tells__105 : decode cX8_tells_ 105 = .ok (.iload_n 2, 1) := by decide +kernel
theorem dX8_tells__106 : decode cX8_tells_ 106 = .ok (.invokestatic 314, 3) := by decide +kernel
theorem dX8_tells__109 : decode cX8_tells_ 109 = .ok (.iload_n 3, 1) := by decide +kernel
theorem dX8_tells__110 : decode cX8_tells_ 110 = .ok (.invokevirtual 323, 3) := by decide +kernel
theorem dX8_tells__113 : decode cX8_tells_ 113 = .ok (.ireturn, 1) := by decide +kernel
theorem dX8_body_0 : decode cX8_body 0 = .ok (.iload_n 1, 1) := by decide +kernel
theorem dX8_body_1 : decode cX8_body 1 = .ok (.iconst 0, 1) := by decide +kernel
theorem dX8_body_2 : decode cX8_body 2 = .ok (.bipush 7, 2) := by decide +kernel
theorem dX8_body_4 : decode cX8_body 4 = .ok (.invokestatic 98, 3) := by decide +kernel
theorem dX8_body_7 : decode cX8_body 7 = .ok (.ifCond .ne 5, 3) := by decide +kernel
theorem dX8_body_10 : decode cX8_body 10 = .ok (.iconst (-1), 1) := by decide +kernel
theorem dX8_body_11 : decode cX8_body 11 = .ok (.ireturn, 1) := by decide +kernel
theorem dX8_body_12 : decode cX8_body 12 = .ok (.aload_n 0, 1) := by decide +kernel
theorem dX8_body_13 : decode cX8_body 13 = .ok (.getfield 326, 3) := by decide +kernel
theorem dX8_body_16 : decode cX8_body 16 = .ok (.bipush 50, 2) := by decide +kernel
theorem dX8_body_18 : decode cX8_body 18 = .ok (.if_icmp .ne 6, 3) := by decide +kernel
theorem dX8_body_21 : decode cX8_body 21 = .ok (.bipush (-3), 2) := by decide +kernel
theorem dX8_body_23 : decode cX8_body 23 = .ok (.ireturn, 1) := by decide +kernel
theorem dX8_body_24 : decode cX8_body 24 = .ok (.aload_n 0, 1) := by decide +kernel
theorem dX8_body_25 : decode cX8_body 25 = .ok (.getfield 63, 3) := by decide +kernel
theorem dX8_body_28 : decode cX8_body 28 = .ok (.aload_n 0, 1) := by decide +kernel
theorem dX8_body_29 : decode cX8_body 29 = .ok (.getfield 326, 3) := by decide +kernel
theorem dX8_body_32 : decode cX8_body 32 = .ok (.iload_n 1, 1) := by decide +kernel
theorem dX8_body_33 : decode cX8_body 33 = .ok (.iastore, 1) := by decide +kernel
theorem dX8_body_34 : decode cX8_body 34 = .ok (.aload_n 0, 1) := by decide +kernel
theorem dX8_body_35 : decode cX8_body 35 = .ok (.dup, 1) := by decide +kernel
theorem dX8_body_36 : decode cX8_body 36 = .ok (.getfield 326, 3) := by decide +kernel
theorem dX8_body_39 : decode cX8_body 39 = .ok (.dup_x1, 1) := by decide +kernel
theorem dX8_body_40 : decode cX8_body 40 = .ok (.iconst 1, 1) := by decide +kernel
theorem dX8_body_41 : decode cX8_body 41 = .ok (.iadd, 1) := by decide +kernel
theorem dX8_body_42 : decode cX8_body 42 = .ok (.putfield 326, 3) := by decide +kernel
theorem dX8_body_45 : decode cX8_body 45 = .ok (.ireturn, 1) := by decide +kernel
theorem dX8_act_0 : decode cX8_act 0 = .ok (.aload_n 0, 1) := by decide +kernel
theorem dX8_act_1 : decode cX8_act 1 = .ok (.iconst 0, 1) := by decide +kernel
theorem dX8_act_2 : decode cX8_act 2 = .ok (.putfield 304, 3) := by decide +kernel
theorem dX8_act_5 : decode cX8_act 5 = .ok (.iload_n 1, 1) := by decide +kernel
theorem dX8_act_6 : decode cX8_act 6 = .ok (.iconst 0, 1) := by decide +kernel
theorem dX8_act_7 : decode cX8_act 7 = .ok (.aload_n 0, 1) := by decide +kernel
theorem dX8_act_8 : decode cX8_act 8 = .ok (.getfield 326, 3) := by decide +kernel
theorem dX8_act_11 : decode cX8_act 11 = .ok (.iconst 1, 1) := by decide +kernel
theorem dX8_act_12 : decode cX8_act 12 = .ok (.isub, 1) := by decide +kernel
theorem dX8_act_13 : decode cX8_act 13 = .ok (.invokestatic 98, 3) := by decide +kernel
theorem dX8_act_16 : decode cX8_act 16 = .ok (.ifCond .eq 12, 3) := by decide +kernel
theorem dX8_act_19 : decode cX8_act 19 = .ok (.iload_n 2, 1) := by decide +kernel
theorem dX8_act_20 : decode cX8_act 20 = .ok (.iconst 0, 1) := by decide +kernel
theorem dX8_act_21 : decode cX8_act 21 = .ok (.iconst 3, 1) := by decide +kernel
theorem dX8_act_22 : decode cX8_act 22 = .ok (.invokestatic 98, 3) := by decide +kernel
theorem dX8_act_25 : decode cX8_act 25 = .ok (.ifCond .ne 5, 3) := by decide +kernel
theorem dX8_act_28 : decode cX8_act 28 = .ok (.iconst 0, 1) := by decide +kernel
theorem dX8_act_29 : decode cX8_act 29 = .ok (.ireturn, 1) := by decide +kernel
theorem dX8_act_30 : decode cX8_act 30 = .ok (.aload_n 0, 1) := by decide +kernel
theorem dX8_act_31 : decode cX8_act 31 = .ok (.getfield 63, 3) := by decide +kernel
theorem dX8_act_34 : decode cX8_act 34 = .ok (.iload_n 1, 1) := by decide +kernel
theorem dX8_act_35 : decode cX8_act 35 = .ok (.iaload, 1) := by decide +kernel
theorem dX8_act_36 : decode cX8_act 36 = .ok (.istore 4, 2) := by decide +kernel
theorem dX8_act_38 : decode cX8_act 38 = .ok (.iload_n 2, 1) := by decide +kernel
theorem dX8_act_39 : decode cX8_act 39 = .ok (.ifCond .ne 14, 3) := by decide +kernel
theorem dX8_act_42 : decode cX8_act 42 = .ok (.aload_n 0, 1) := by decide +kernel
theorem dX8_act_43 : decode cX8_act 43 = .ok (.iload_n 1, 1) := by decide +kernel
theorem dX8_act_44 : decode cX8_act 44 = .ok (.iload 4, 2) := by decide +kernel
theorem dX8_act_46 : decode cX8_act 46 = .ok (.iload_n 3, 1) := by decide +kernel
theorem dX8_act_47 : decode cX8_act 47 = .ok (.invokevirtual 311, 3) := by decide +kernel
theorem dX8_act_50 : decode cX8_act 50 = .ok (.goto 43, 3) := by decide +kernel
theorem dX8_act_53 : decode cX8_act 53 = .ok (.iload_n 2, 1) := by decide +kernel
theorem dX8_act_54 : decode cX8_act 54 = .ok (.iconst 1, 1) := by decide +kernel
theorem dX8_act_55 : decode cX8_act 55 = .ok (.if_icmp .ne 14, 3) := by decide +kernel
theorem dX8_act_58 : decode cX8_act 58 = .ok (.aload_n 0, 1) := by decide +kernel
theorem dX8_act_59 : decode cX8_act 59 = .ok (.iload_n 1, 1) := by decide +kernel
theorem dX8_act_60 : decode cX8_act 60 = .ok (.iload 4, 2) := by decide +kernel
theorem dX8_act_62 : decode cX8_act 62 = .ok (.iload_n 3, 1) := by decide +kernel
theorem dX8_act_63 : decode cX8_act 63 = .ok (.invokevirtual 317, 3) := by decide +kernel
theorem dX8_act_66 : decode cX8_act 66 = .ok (.goto 27, 3) := by decide +kernel
theorem dX8_act_69 : decode cX8_act 69 = .ok (.iload_n 2, 1) := by decide +kernel
theorem dX8_act_70 : decode cX8_act 70 = .ok (.iconst 2, 1) := by decide +kernel
theorem dX8_act_71 : decode cX8_act 71 = .ok (.if_icmp .ne 14, 3) := by decide +kernel
theorem dX8_act_74 : decode cX8_act 74 = .ok (.aload_n 0, 1) := by decide +kernel
theorem dX8_act_75 : decode cX8_act 75 = .ok (.iload_n 1, 1) := by decide +kernel
theorem dX8_act_76 : decode cX8_act 76 = .ok (.iload 4, 2) := by decide +kernel
theorem dX8_act_78 : decode cX8_act 78 = .ok (.iload_n 3, 1) := by decide +kernel
theorem dX8_act_79 : decode cX8_act 79 = .ok (.invokevirtual 320, 3) := by decide +kernel
theorem dX8_act_82 : decode cX8_act 82 = .ok (.goto 11, 3) := by decide +kernel
theorem dX8_act_85 : decode cX8_act 85 = .ok (.aload_n 0, 1) := by decide +kernel
theorem dX8_act_86 : decode cX8_act 86 = .ok (.iload_n 1, 1) := by decide +kernel
theorem dX8_act_87 : decode cX8_act 87 = .ok (.iload 4, 2) := by decide +kernel
theorem dX8_act_89 : decode cX8_act 89 = .ok (.iload_n 3, 1) := by decide +kernel
theorem dX8_act_90 : decode cX8_act 90 = .ok (.invokevirtual 323, 3) := by decide +kernel
theorem dX8_act_93 : decode cX8_act 93 = .ok (.ireturn, 1) := by decide +kernel
theorem dX8_trace_0 : decode cX8_trace 0 = .ok (.iload_n 1, 1) := by decide +kernel
theorem dX8_trace_1 : decode cX8_trace 1 = .ok (.iconst 0, 1) := by decide +kernel
theorem dX8_trace_2 : decode cX8_trace 2 = .ok (.bipush 24, 2) := by decide +kernel
theorem dX8_trace_4 : decode cX8_trace 4 = .ok (.aload_n 0, 1) := by decide +kernel
theorem dX8_trace_5 : decode cX8_trace 5 = .ok (.getfield 304, 3) := by decide +kernel
theorem dX8_trace_8 : decode cX8_trace 8 = .ok (.invokestatic 220, 3) := by decide +kernel
theorem dX8_trace_11 : decode cX8_trace 11 = .ok (.iconst 1, 1) := by decide +kernel
theorem dX8_trace_12 : decode cX8_trace 12 = .ok (.isub, 1) := by decide +kernel
theorem dX8_trace_13 : decode cX8_trace 13 = .ok (.invokestatic 98, 3) := by decide +kernel
theorem dX8_trace_16 : decode cX8_trace 16 = .ok (.ifCond .eq 12, 3) := by decide +kernel
theorem dX8_trace_19 : decode cX8_trace 19 = .ok (.aload_n 0, 1) := by decide +kernel
theorem dX8_trace_20 : decode cX8_trace 20 = .ok (.getfield 66, 3) := by decide +kernel
theorem dX8_trace_23 : decode cX8_trace 23 = .ok (.iload_n 1, 1) := by decide +kernel
theorem dX8_trace_24 : decode cX8_trace 24 = .ok (.iaload, 1) := by decide +kernel
theorem dX8_trace_25 : decode cX8_trace 25 = .ok (.goto 4, 3) := by decide +kernel
theorem dX8_trace_28 : decode cX8_trace 28 = .ok (.iconst (-1), 1) := by decide +kernel
theorem dX8_trace_29 : decode cX8_trace 29 = .ok (.ireturn, 1) := by decide +kernel
theorem dX8_keep_0 : decode cX8_keep 0 = .ok (.iload_n 1, 1) := by decide +kernel
theorem dX8_keep_1 : decode cX8_keep 1 = .ok (.invokestatic 106, 3) := by decide +kernel
theorem dX8_keep_4 : decode cX8_keep 4 = .ok (.ifCond .eq 17, 3) := by decide +kernel
theorem dX8_keep_7 : decode cX8_keep 7 = .ok (.iload_n 2, 1) := by decide +kernel
theorem dX8_keep_8 : decode cX8_keep 8 = .ok (.iconst (-1), 1) := by decide +kernel
theorem dX8_keep_9 : decode cX8_keep 9 = .ok (.aload_n 0, 1) := by decide +kernel
theorem dX8_keep_10 : decode cX8_keep 10 = .ok (.getfield 326, 3) := by decide +kernel
theorem dX8_keep_13 : decode cX8_keep 13 = .ok (.iconst 1, 1) := by decide +kernel
theorem dX8_keep_14 : decode cX8_keep 14 = .ok (.isub, 1) := by decide +kernel
theorem dX8_keep_15 : decode cX8_keep 15 = .ok (.invokestatic 98, 3) := by decide +kernel
theorem dX8_keep_18 : decode cX8_keep 18 = .ok (.ifCond .ne 5, 3) := by decide +kernel
theorem dX8_keep_21 : decode cX8_keep 21 = .ok (.iconst (-1), 1) := by decide +kernel
theorem dX8_keep_22 : decode cX8_keep 22 = .ok (.ireturn, 1) := by decide +kernel
theorem dX8_keep_23 : decode cX8_keep 23 = .ok (.aload_n 0, 1) := by decide +kernel
theorem dX8_keep_24 : decode cX8_keep 24 = .ok (.getfield 69, 3) := by decide +kernel
theorem dX8_keep_27 : decode cX8_keep 27 = .ok (.iload_n 1, 1) := by decide +kernel
theorem dX8_keep_28 : decode cX8_keep 28 = .ok (.iload_n 2, 1) := by decide +kernel
theorem dX8_keep_29 : decode cX8_keep 29 = .ok (.ifCond .ge 7, 3) := by decide +kernel
theorem dX8_keep_32 : decode cX8_keep 32 = .ok (.iconst (-1), 1) := by decide +kernel
theorem dX8_keep_33 : decode cX8_keep 33 = .ok (.goto 7, 3) := by decide +kernel
theorem dX8_keep_36 : decode cX8_keep 36 = .ok (.bipush 10, 2) := by decide +kernel
theorem dX8_keep_38 : decode cX8_keep 38 = .ok (.iload_n 2, 1) := by decide +kernel
theorem dX8_keep_39 : decode cX8_keep 39 = .ok (.iadd, 1) := by decide +kernel
theorem dX8_keep_40 : decode cX8_keep 40 = .ok (.iastore, 1) := by decide +kernel
theorem dX8_keep_41 : decode cX8_keep 41 = .ok (.aload_n 0, 1) := by decide +kernel
theorem dX8_keep_42 : decode cX8_keep 42 = .ok (.getfield 72, 3) := by decide +kernel
theorem dX8_keep_45 : decode cX8_keep 45 = .ok (.iload_n 1, 1) := by decide +kernel
theorem dX8_keep_46 : decode cX8_keep 46 = .ok (.iconst 0, 1) := by decide +kernel
theorem dX8_keep_47 : decode cX8_keep 47 = .ok (.iastore, 1) := by decide +kernel
theorem dX8_keep_48 : decode cX8_keep 48 = .ok (.iconst 1, 1) := by decide +kernel
theorem dX8_keep_49 : decode cX8_keep 49 = .ok (.ireturn, 1) := by decide +kernel
theorem dX8_row_0 : decode cX8_row 0 = .ok (.iload_n 1, 1) := by decide +kernel
theorem dX8_row_1 : decode cX8_row 1 = .ok (.invokestatic 106, 3) := by decide +kernel
theorem dX8_row_4 : decode cX8_row 4 = .ok (.ifCond .eq 18, 3) := by decide +kernel
theorem dX8_row_7 : decode cX8_row 7 = .ok (.iload_n 2, 1) := by decide +kernel
theorem dX8_row_8 : decode cX8_row 8 = .ok (.iconst 0, 1) := by decide +kernel
theorem dX8_row_9 : decode cX8_row 9 = .ok (.iconst 4, 1) := by decide +kernel
theorem dX8_row_10 : decode cX8_row 10 = .ok (.invokestatic 98, 3) := by decide +kernel
theorem dX8_row_13 : decode cX8_row 13 = .ok (.ifCond .eq 9, 3) := by decide +kernel
theorem dX8_row_16 : decode cX8_row 16 = .ok (.iload_n 3, 1) := by decide +kernel
theorem dX8_row_17 : decode cX8_row 17 = .ok (.bipush 60, 2) := by decide +kernel
theorem dX8_row_19 : decode cX8_row 19 = .ok (.if_icmp .le 5, 3) := by decide +kernel
theorem dX8_row_22 : decode cX8_row 22 = .ok (.iconst (-1), 1) := by decide +kernel
theorem dX8_row_23 : decode cX8_row 23 = .ok (.ireturn, 1) := by decide +kernel
theorem dX8_row_24 : decode cX8_row 24 = .ok (.iload_n 3, 1) := by decide +kernel
theorem dX8_row_25 : decode cX8_row 25 = .ok (.ifCond .ge 6, 3) := by decide +kernel
theorem dX8_row_28 : decode cX8_row 28 = .ok (.bipush (-14), 2) := by decide +kernel
theorem dX8_row_30 : decode cX8_row 30 = .ok (.ireturn, 1) := by decide +kernel
theorem dX8_row_31 : decode cX8_row 31 = .ok (.aload_n 0, 1) := by decide +kernel
theorem dX8_row_32 : decode cX8_row 32 = .ok (.getfield 69, 3) := by decide +kernel
theorem dX8_row_35 : decode cX8_row 35 = .ok (.iload_n 1, 1) := by decide +kernel
theorem dX8_row_36 : decode cX8_row 36 = .ok (.iload_n 2, 1) := by decide +kernel
theorem dX8_row_37 : decode cX8_row 37 = .ok (.iastore, 1) := by decide +kernel
theorem dX8_row_38 : decode cX8_row 38 = .ok (.aload_n 0, 1) := by decide +kernel
theorem dX8_row_39 : decode cX8_row 39 = .ok (.getfield 72, 3) := by decide +kernel
theorem dX8_row_42 : decode cX8_row 42 = .ok (.iload_n 1, 1) := by decide +kernel
theorem dX8_row_43 : decode cX8_row 43 = .ok (.iload_n 3, 1) := by decide +kernel
theorem dX8_row_44 : decode cX8_row 44 = .ok (.iastore, 1) := by decide +kernel
theorem dX8_row_45 : decode cX8_row 45 = .ok (.iconst 0, 1) := by decide +kernel
theorem dX8_row_46 : decode cX8_row 46 = .ok (.istore 4, 2) := by decide +kernel
theorem dX8_row_48 : decode cX8_row 48 = .ok (.iload 4, 2) := by decide +kernel
theorem dX8_row_50 : decode cX8_row 50 = .ok (.bipush 60, 2) := by decide +kernel
theorem dX8_row_52 : decode cX8_row 52 = .ok (.if_icmp .ge 22, 3) := by decide +kernel
theorem dX8_row_55 : decode cX8_row 55 = .ok (.aload_n 0, 1) := by decide +kernel
theorem dX8_row_56 : decode cX8_row 56 = .ok (.getfield 75, 3) := by decide +kernel
theorem dX8_row_59 : decode cX8_row 59 = .ok (.bipush 60, 2) := by decide +kernel
theorem dX8_row_61 : decode cX8_row 61 = .ok (.iload_n 1, 1) := by decide +kernel
theorem dX8_row_62 : decode cX8_row 62 = .ok (.imul, 1) := by decide +kernel
theorem dX8_row_63 : decode cX8_row 63 = .ok (.iload 4, 2) := by decide +kernel
theorem dX8_row_65 : decode cX8_row 65 = .ok (.iadd, 1) := by decide +kernel
theorem dX8_row_66 : decode cX8_row 66 = .ok (.lconst 0, 1) := by decide +kernel
theorem dX8_row_67 : decode cX8_row 67 = .ok (.lastore, 1) := by decide +kernel
theorem dX8_row_68 : decode cX8_row 68 = .ok (.iinc 4 1, 3) := by decide +kernel
theorem dX8_row_71 : decode cX8_row 71 = .ok (.goto (-23), 3) := by decide +kernel
theorem dX8_row_74 : decode cX8_row 74 = .ok (.iconst 1, 1) := by decide +kernel
theorem dX8_row_75 : decode cX8_row 75 = .ok (.ireturn, 1) := by decide +kernel
theorem dX8_isRow_0 : decode cX8_isRow 0 = .ok (.aload_n 0, 1) := by decide +kernel
theorem dX8_isRow_1 : decode cX8_isRow 1 = .ok (.getfield 69, 3) := by decide +kernel
theorem dX8_isRow_4 : decode cX8_isRow 4 = .ok (.iload_n 1, 1) := by decide +kernel
theorem dX8_isRow_5 : decode cX8_isRow 5 = .ok (.iaload, 1) := by decide +kernel
theorem dX8_isRow_6 : decode cX8_isRow 6 = .ok (.iconst 0, 1) := by decide +kernel
theorem dX8_isRow_7 : decode cX8_isRow 7 = .ok (.iconst 4, 1) := by decide +kernel
theorem dX8_isRow_8 : decode cX8_isRow 8 = .ok (.invokestatic 98, 3) := by decide +kernel
theorem dX8_isRow_11 : decode cX8_isRow 11 = .ok (.ireturn, 1) := by decide +kernel
theorem dX8_kept_0 : decode cX8_kept 0 = .ok (.iload_n 0, 1) := by decide +kernel
theorem dX8_kept_1 : decode cX8_kept 1 = .ok (.tableswitch 47 0 3 #[31, 36, 41, 45], 31) := by decide +kernel
theorem dX8_kept_32 : decode cX8_kept 32 = .ok (.lload_n 1, 1) := by decide +kernel
theorem dX8_kept_33 : decode cX8_kept 33 = .ok (.l2i, 1) := by decide +kernel
theorem dX8_kept_34 : decode cX8_kept 34 = .ok (.i2b, 1) := by decide +kernel
theorem dX8_kept_35 : decode cX8_kept 35 = .ok (.i2l, 1) := by decide +kernel
theorem dX8_kept_36 : decode cX8_kept 36 = .ok (.lreturn, 1) := by decide +kernel
theorem dX8_kept_37 : decode cX8_kept 37 = .ok (.lload_n 1, 1) := by decide +kernel
theorem dX8_kept_38 : decode cX8_kept 38 = .ok (.l2i, 1) := by decide +kernel
theorem dX8_kept_39 : decode cX8_kept 39 = .ok (.i2s, 1) := by decide +kernel
theorem dX8_kept_40 : decode cX8_kept 40 = .ok (.i2l, 1) := by decide +kernel
theorem dX8_kept_41 : decode cX8_kept 41 = .ok (.lreturn, 1) := by decide +kernel
theorem dX8_kept_42 : decode cX8_kept 42 = .ok (.lload_n 1, 1) := by decide +kernel
theorem dX8_kept_43 : decode cX8_kept 43 = .ok (.l2i, 1) := by decide +kernel
theorem dX8_kept_44 : decode cX8_kept 44 = .ok (.i2l, 1) := by decide +kernel
theorem dX8_kept_45 : decode cX8_kept 45 = .ok (.lreturn, 1) := by decide +kernel
theorem dX8_kept_46 : decode cX8_kept 46 = .ok (.lload_n 1, 1) := by decide +kernel
theorem dX8_kept_47 : decode cX8_kept 47 = .ok (.lreturn, 1) := by decide +kernel
theorem dX8_kept_48 : decode cX8_kept 48 = .ok (.lload_n 1, 1) := by decide +kernel
theorem dX8_kept_49 : decode cX8_kept 49 = .ok (.lconst 0, 1) := by decide +kernel
theorem dX8_kept_50 : decode cX8_kept 50 = .ok (.lcmp, 1) := by decide +kernel
theorem dX8_kept_51 : decode cX8_kept 51 = .ok (.ifCond .eq 7, 3) := by decide +kernel
theorem dX8_kept_54 : decode cX8_kept 54 = .ok (.lconst 1, 1) := by decide +kernel
theorem dX8_kept_55 : decode cX8_kept 55 = .ok (.goto 4, 3) := by decide +kernel
theorem dX8_kept_58 : decode cX8_kept 58 = .ok (.lconst 0, 1) := by decide +kernel
theorem dX8_kept_59 : decode cX8_kept 59 = .ok (.lreturn, 1) := by decide +kernel
theorem dX8_put_0 : decode cX8_put 0 = .ok (.iload_n 1, 1) := by decide +kernel
theorem dX8_put_1 : decode cX8_put 1 = .ok (.invokestatic 106, 3) := by decide +kernel
theorem dX8_put_4 : decode cX8_put 4 = .ok (.ifCond .ne 5, 3) := by decide +kernel
theorem dX8_put_7 : decode cX8_put 7 = .ok (.iconst (-1), 1) := by decide +kernel
theorem dX8_put_8 : decode cX8_put 8 = .ok (.ireturn, 1) := by decide +kernel
theorem dX8_put_9 : decode cX8_put 9 = .ok (.aload_n 0, 1) := by decide +kernel
theorem dX8_put_10 : decode cX8_put 10 = .ok (.getfield 69, 3) := by decide +kernel
theorem dX8_put_13 : decode cX8_put 13 = .ok (.iload_n 1, 1) := by decide +kernel
theorem dX8_put_14 : decode cX8_put 14 = .ok (.iaload, 1) := by decide +kernel
theorem dX8_put_15 : decode cX8_put 15 = .ok (.iconst (-1), 1) := by decide +kernel
theorem dX8_put_16 : decode cX8_put 16 = .ok (.if_icmp .ne 6, 3) := by decide +kernel
theorem dX8_put_19 : decode cX8_put 19 = .ok (.bipush (-11), 2) := by decide +kernel
theorem dX8_put_21 : decode cX8_put 21 = .ok (.ireturn, 1) := by decide +kernel
theorem dX8_put_22 : decode cX8_put 22 = .ok (.aload_n 0, 1) := by decide +kernel
theorem dX8_put_23 : decode cX8_put 23 = .ok (.iload_n 1, 1) := by decide +kernel
theorem dX8_put_24 : decode cX8_put 24 = .ok (.invokevirtual 329, 3) := by decide +kernel
theorem dX8_put_27 : decode cX8_put 27 = .ok (.ifCond .ne 6, 3) := by decide +kernel
theorem dX8_put_30 : decode cX8_put 30 = .ok (.bipush (-12), 2) := by decide +kernel
theorem dX8_put_32 : decode cX8_put 32 = .ok (.ireturn, 1) := by decide +kernel
theorem dX8_put_33 : decode cX8_put 33 = .ok (.iload_n 2, 1) := by decide +kernel
theorem dX8_put_34 : decode cX8_put 34 = .ok (.iconst 0, 1) := by decide +kernel
theorem dX8_put_35 : decode cX8_put 35 = .ok (.aload_n 0, 1) := by decide +kernel
theorem dX8_put_36 : decode cX8_put 36 = .ok (.getfield 72, 3) := by decide +kernel
theorem dX8_put_39 : decode cX8_put 39 = .ok (.iload_n 1, 1) := by decide +kernel
theorem dX8_put_40 : decode cX8_put 40 = .ok (.iaload, 1) := by decide +kernel
theorem dX8_put_41 : decode cX8_put 41 = .ok (.iconst 1, 1) := by decide +kernel
theorem dX8_put_42 : decode cX8_put 42 = .ok (.isub, 1) := by decide +kernel
theorem dX8_put_43 : decode cX8_put 43 = .ok (.invokestatic 98, 3) := by decide +kernel
theorem dX8_put_46 : decode cX8_put 46 = .ok (.ifCond .ne 6, 3) := by decide +kernel
theorem dX8_put_49 : decode cX8_put 49 = .ok (.bipush (-13), 2) := by decide +kernel
theorem dX8_put_51 : decode cX8_put 51 = .ok (.ireturn, 1) := by decide +kernel
theorem dX8_put_52 : decode cX8_put 52 = .ok (.aload_n 0, 1) := by decide +kernel
theorem dX8_put_53 : decode cX8_put 53 = .ok (.getfield 75, 3) := by decide +kernel
theorem dX8_put_56 : decode cX8_put 56 = .ok (.bipush 60, 2) := by decide +kernel
theorem dX8_put_58 : decode cX8_put 58 = .ok (.iload_n 1, 1) := by decide +kernel
theorem dX8_put_59 : decode cX8_put 59 = .ok (.imul, 1) := by decide +kernel
theorem dX8_put_60 : decode cX8_put 60 = .ok (.iload_n 2, 1) := by decide +kernel
theorem dX8_put_61 : decode cX8_put 61 = .ok (.iadd, 1) := by decide +kernel
theorem dX8_put_62 : decode cX8_put 62 = .ok (.aload_n 0, 1) := by decide +kernel
theorem dX8_put_63 : decode cX8_put 63 = .ok (.getfield 69, 3) := by decide +kernel
theorem dX8_put_66 : decode cX8_put 66 = .ok (.iload_n 1, 1) := by decide +kernel
theorem dX8_put_67 : decode cX8_put 67 = .ok (.iaload, 1) := by decide +kernel
theorem dX8_put_68 : decode cX8_put 68 = .ok (.lload_n 3, 1) := by decide +kernel
theorem dX8_put_69 : decode cX8_put 69 = .ok (.invokestatic 332, 3) := by decide +kernel
theorem dX8_put_72 : decode cX8_put 72 = .ok (.lastore, 1) := by decide +kernel
theorem dX8_put_73 : decode cX8_put 73 = .ok (.iconst 1, 1) := by decide +kernel
theorem dX8_put_74 : decode cX8_put 74 = .ok (.ireturn, 1) := by decide +kernel
theorem dX8_element_0 : decode cX8_element 0 = .ok (.iload_n 1, 1) := by decide +kernel
theorem dX8_element_1 : decode cX8_element 1 = .ok (.invokestatic 106, 3) := by decide +kernel
theorem dX8_element_4 : decode cX8_element 4 = .ok (.ifCond .eq 41, 3) := by decide +kernel
theorem dX8_element_7 : decode cX8_element 7 = .ok (.aload_n 0, 1) := by decide +kernel
theorem dX8_element_8 : decode cX8_element 8 = .ok (.iload_n 1, 1) := by decide +kernel
theorem dX8_element_9 : decode cX8_element 9 = .ok (.invokevirtual 329, 3) := by decide +kernel
theorem dX8_element_12 : decode cX8_element 12 = .ok (.ifCond .eq 33, 3) := by decide +kernel
theorem dX8_element_15 : decode cX8_element 15 = .ok (.iload_n 2, 1) := by decide +kernel
theorem dX8_element_16 : decode cX8_element 16 = .ok (.iconst 0, 1) := by decide +kernel
theorem dX8_element_17 : decode cX8_element 17 = .ok (.aload_n 0, 1) := by decide +kernel
theorem dX8_element_18 : decode cX8_element 18 = .ok (.getfield 72, 3) := by decide +kernel
theorem dX8_element_21 : decode cX8_element 21 = .ok (.iload_n 1, 1) := by decide +kernel
theorem dX8_element_22 : decode cX8_element 22 = .ok (.iaload, 1) := by decide +kernel
theorem dX8_element_23 : decode cX8_element 23 = .ok (.iconst 1, 1) := by decide +kernel
theorem dX8_element_24 : decode cX8_element 24 = .ok (.isub, 1) := by decide +kernel
theorem dX8_element_25 : decode cX8_element 25 = .ok (.invokestatic 98, 3) := by decide +kernel
theorem dX8_element_28 : decode cX8_element 28 = .ok (.ifCond .eq 17, 3) := by decide +kernel
theorem dX8_element_31 : decode cX8_element 31 = .ok (.aload_n 0, 1) := by decide +kernel
theorem dX8_element_32 : decode cX8_element 32 = .ok (.getfield 75, 3) := by decide +kernel
theorem dX8_element_35 : decode cX8_element 35 = .ok (.bipush 60, 2) := by decide +kernel
theorem dX8_element_37 : decode cX8_element 37 = .ok (.iload_n 1, 1) := by decide +kernel
theorem dX8_element_38 : decode cX8_element 38 = .ok (.imul, 1) := by decide +kernel
theorem dX8_element_39 : decode cX8_element 39 = .ok (.iload_n 2, 1) := by decide +kernel
theorem dX8_element_40 : decode cX8_element 40 = .ok (.iadd, 1) := by decide +kernel
theorem dX8_element_41 : decode cX8_element 41 = .ok (.laload, 1) := by decide +kernel
theorem dX8_element_42 : decode cX8_element 42 = .ok (.goto 6, 3) := by decide +kernel
theorem dX8_element_45 : decode cX8_element 45 = .ok (.ldc2_w 336, 3) := by decide +kernel
theorem dX8_element_48 : decode cX8_element 48 = .ok (.lreturn, 1) := by decide +kernel
theorem dX8_shift_0 : decode cX8_shift 0 = .ok (.iload_n 1, 1) := by decide +kernel
theorem dX8_shift_1 : decode cX8_shift 1 = .ok (.invokestatic 106, 3) := by decide +kernel
theorem dX8_shift_4 : decode cX8_shift 4 = .ok (.ifCond .eq 10, 3) := by decide +kernel
theorem dX8_shift_7 : decode cX8_shift 7 = .ok (.iload_n 3, 1) := by decide +kernel
theorem dX8_shift_8 : decode cX8_shift 8 = .ok (.invokestatic 106, 3) := by decide +kernel
theorem dX8_shift_11 : decode cX8_shift 11 = .ok (.ifCond .ne 5, 3) := by decide +kernel
theorem dX8_shift_14 : decode cX8_shift 14 = .ok (.iconst (-1), 1) := by decide +kernel
theorem dX8_shift_15 : decode cX8_shift 15 = .ok (.ireturn, 1) := by decide +kernel
theorem dX8_shift_16 : decode cX8_shift 16 = .ok (.aload_n 0, 1) := by decide +kernel
theorem dX8_shift_17 : decode cX8_shift 17 = .ok (.getfield 69, 3) := by decide +kernel
theorem dX8_shift_20 : decode cX8_shift 20 = .ok (.iload_n 1, 1) := by decide +kernel
theorem dX8_shift_21 : decode cX8_shift 21 = .ok (.iaload, 1) := by decide +kernel
theorem dX8_shift_22 : decode cX8_shift 22 = .ok (.iconst (-1), 1) := by decide +kernel
theorem dX8_shift_23 : decode cX8_shift 23 = .ok (.if_icmp .eq 13, 3) := by decide +kernel
theorem dX8_shift_26 : decode cX8_shift 26 = .ok (.aload_n 0, 1) := by decide +kernel
theorem dX8_shift_27 : decode cX8_shift 27 = .ok (.getfield 69, 3) := by decide +kernel
theorem dX8_shift_30 : decode cX8_shift 30 = .ok (.iload_n 3, 1) := by decide +kernel
theorem dX8_shift_31 : decode cX8_shift 31 = .ok (.iaload, 1) := by decide +kernel
theorem dX8_shift_32 : decode cX8_shift 32 = .ok (.iconst (-1), 1) := by decide +kernel
theorem dX8_shift_33 : decode cX8_shift 33 = .ok (.if_icmp .ne 6, 3) := by decide +kernel
theorem dX8_shift_36 : decode cX8_shift 36 = .ok (.bipush (-11), 2) := by decide +kernel
theorem dX8_shift_38 : decode cX8_shift 38 = .ok (.ireturn, 1) := by decide +kernel
theorem dX8_shift_39 : decode cX8_shift 39 = .ok (.aload_n 0, 1) := by decide +kernel
theorem dX8_shift_40 : decode cX8_shift 40 = .ok (.iload_n 1, 1) := by decide +kernel
theorem dX8_shift_41 : decode cX8_shift 41 = .ok (.invokevirtual 329, 3) := by decide +kernel
theorem dX8_shift_44 : decode cX8_shift 44 = .ok (.ifCond .eq 26, 3) := by decide +kernel
theorem dX8_shift_47 : decode cX8_shift 47 = .ok (.aload_n 0, 1) := by decide +kernel
theorem dX8_shift_48 : decode cX8_shift 48 = .ok (.iload_n 3, 1) := by decide +kernel
theorem dX8_shift_49 : decode cX8_shift 49 = .ok (.invokevirtual 329, 3) := by decide +kernel
theorem dX8_shift_52 : decode cX8_shift 52 = .ok (.ifCond .eq 18, 3) := by decide +kernel
theorem dX8_shift_55 : decode cX8_shift 55 = .ok (.aload_n 0, 1) := by decide +kernel
theorem dX8_shift_56 : decode cX8_shift 56 = .ok (.getfield 69, 3) := by decide +kernel
theorem dX8_shift_59 : decode cX8_shift 59 = .ok (.iload_n 1, 1) := by decide +kernel
theorem dX8_shift_60 : decode cX8_shift 60 = .ok (.iaload, 1) := by decide +kernel
theorem dX8_shift_61 : decode cX8_shift 61 = .ok (.aload_n 0, 1) := by decide +kernel
theorem dX8_shift_62 : decode cX8_shift 62 = .ok (.getfield 69, 3) := by decide +kernel
theorem dX8_shift_65 : decode cX8_shift 65 = .ok (.iload_n 3, 1) := by decide +kernel
theorem dX8_shift_66 : decode cX8_shift 66 = .ok (.iaload, 1) := by decide +kernel
theorem dX8_shift_67 : decode cX8_shift 67 = .ok (.if_icmp .eq 6, 3) := by decide +kernel
theorem dX8_shift_70 : decode cX8_shift 70 = .ok (.bipush (-12), 2) := by decide +kernel
theorem dX8_shift_72 : decode cX8_shift 72 = .ok (.ireturn, 1) := by decide +kernel
theorem dX8_shift_73 : decode cX8_shift 73 = .ok (.iload 5, 2) := by decide +kernel
theorem dX8_shift_75 : decode cX8_shift 75 = .ok (.ifCond .lt 47, 3) := by decide +kernel
theorem dX8_shift_78 : decode cX8_shift 78 = .ok (.iload_n 2, 1) := by decide +kernel
theorem dX8_shift_79 : decode cX8_shift 79 = .ok (.ifCond .lt 43, 3) := by decide +kernel
theorem dX8_shift_82 : decode cX8_shift 82 = .ok (.iload 4, 2) := by decide +kernel
theorem dX8_shift_84 : decode cX8_shift 84 = .ok (.ifCond .lt 38, 3) := by decide +kernel
theorem dX8_shift_87 : decode cX8_shift 87 = .ok (.iload_n 2, 1) := by decide +kernel
theorem dX8_shift_88 : decode cX8_shift 88 = .ok (.i2l, 1) := by decide +kernel
theorem dX8_shift_89 : decode cX8_shift 89 = .ok (.iload 5, 2) := by decide +kernel
theorem dX8_shift_91 : decode cX8_shift 91 = .ok (.i2l, 1) := by decide +kernel
theorem dX8_shift_92 : decode cX8_shift 92 = .ok (.ladd, 1) := by decide +kernel
theorem dX8_shift_93 : decode cX8_shift 93 = .ok (.aload_n 0, 1) := by decide +kernel
theorem dX8_shift_94 : decode cX8_shift 94 = .ok (.getfield 72, 3) := by decide +kernel
theorem dX8_shift_97 : decode cX8_shift 97 = .ok (.iload_n 1, 1) := by decide +kernel
theorem dX8_shift_98 : decode cX8_shift 98 = .ok (.iaload, 1) := by decide +kernel
theorem dX8_shift_99 : decode cX8_shift 99 = .ok (.i2l, 1) := by decide +kernel
theorem dX8_shift_100 : decode cX8_shift 100 = .ok (.lcmp, 1) := by decide +kernel
theorem dX8_shift_101 : decode cX8_shift 101 = .ok (.ifCond .gt 21, 3) := by decide +kernel
theorem dX8_shift_104 : decode cX8_shift 104 = .ok (.iload 4, 2) := by decide +kernel
theorem dX8_shift_106 : decode cX8_shift 106 = .ok (.i2l, 1) := by decide +kernel
theorem dX8_shift_107 : decode cX8_shift 107 = .ok (.iload 5, 2) := by decide +kernel
theorem dX8_shift_109 : decode cX8_shift 109 = .ok (.i2l, 1) := by decide +kernel
theorem dX8_shift_110 : decode cX8_shift 110 = .ok (.ladd, 1) := by decide +kernel
theorem dX8_shift_111 : decode cX8_shift 111 = .ok (.aload_n 0, 1) := by decide +kernel
theorem dX8_shift_112 : decode cX8_shift 112 = .ok (.getfield 72, 3) := by decide +kernel
theorem dX8_shift_115 : decode cX8_shift 115 = .ok (.iload_n 3, 1) := by decide +kernel
theorem dX8_shift_116 : decode cX8_shift 116 = .ok (.iaload, 1) := by decide +kernel
theorem dX8_shift_117 : decode cX8_shift 117 = .ok (.i2l, 1) := by decide +kernel
theorem dX8_shift_118 : decode cX8_shift 118 = .ok (.lcmp, 1) := by decide +kernel
theorem dX8_shift_119 : decode cX8_shift 119 = .ok (.ifCond .le 6, 3) := by decide +kernel
theorem dX8_shift_122 : decode cX8_shift 122 = .ok (.bipush (-13), 2) := by decide +kernel
theorem dX8_shift_124 : decode cX8_shift 124 = .ok (.ireturn, 1) := by decide +kernel
theorem dX8_shift_125 : decode cX8_shift 125 = .ok (.iload_n 1, 1) := by decide +kernel
theorem dX8_shift_126 : decode cX8_shift 126 = .ok (.iload_n 3, 1) := by decide +kernel
theorem dX8_shift_127 : decode cX8_shift 127 = .ok (.if_icmp .ne 58, 3) := by decide +kernel
theorem dX8_shift_130 : decode cX8_shift 130 = .ok (.iload_n 2, 1) := by decide +kernel
theorem dX8_shift_131 : decode cX8_shift 131 = .ok (.iload 4, 2) := by decide +kernel
theorem dX8_shift_133 : decode cX8_shift 133 = .ok (.if_icmp .ge 52, 3) := by decide +kernel
theorem dX8_shift_136 : decode cX8_shift 136 = .ok (.iload 5, 2) := by decide +kernel
theorem dX8_shift_138 : decode cX8_shift 138 = .ok (.iconst 1, 1) := by decide +kernel
theorem dX8_shift_139 : decode cX8_shift 139 = .ok (.isub, 1) := by decide +kernel
theorem dX8_shift_140 : decode cX8_shift 140 = .ok (.istore 6, 2) := by decide +kernel
theorem dX8_shift_142 : decode cX8_shift 142 = .ok (.iload 6, 2) := by decide +kernel
theorem dX8_shift_144 : decode cX8_shift 144 = .ok (.ifCond .lt 38, 3) := by decide +kernel
theorem dX8_shift_147 : decode cX8_shift 147 = .ok (.aload_n 0, 1) := by decide +kernel
theorem dX8_shift_148 : decode cX8_shift 148 = .ok (.getfield 75, 3) := by decide +kernel
theorem dX8_shift_151 : decode cX8_shift 151 = .ok (.bipush 60, 2) := by decide +kernel
theorem dX8_shift_153 : decode cX8_shift 153 = .ok (.iload_n 3, 1) := by decide +kernel
theorem dX8_shift_154 : decode cX8_shift 154 = .ok (.imul, 1) := by decide +kernel
theorem dX8_shift_155 : decode cX8_shift 155 = .ok (.iload 4, 2) := by decide +kernel
theorem dX8_shift_157 : decode cX8_shift 157 = .ok (.iadd, 1) := by decide +kernel
theorem dX8_shift_158 : decode cX8_shift 158 = .ok (.iload 6, 2) := by decide +kernel
theorem dX8_shift_160 : decode cX8_shift 160 = .ok (.iadd, 1) := by decide +kernel
theorem dX8_shift_161 : decode cX8_shift 161 = .ok (.aload_n 0, 1) := by decide +kernel
theorem dX8_shift_162 : decode cX8_shift 162 = .ok (.getfield 75, 3) := by decide +kernel
theorem dX8_shift_165 : decode cX8_shift 165 = .ok (.bipush 60, 2) := by decide +kernel
theorem dX8_shift_167 : decode cX8_shift 167 = .ok (.iload_n 1, 1) := by decide +kernel
theorem dX8_shift_168 : decode cX8_shift 168 = .ok (.imul, 1) := by decide +kernel
theorem dX8_shift_169 : decode cX8_shift 169 = .ok (.iload_n 2, 1) := by decide +kernel
theorem dX8_shift_170 : decode cX8_shift 170 = .ok (.iadd, 1) := by decide +kernel
theorem dX8_shift_171 : decode cX8_shift 171 = .ok (.iload 6, 2) := by decide +kernel
theorem dX8_shift_173 : decode cX8_shift 173 = .ok (.iadd, 1) := by decide +kernel
theorem dX8_shift_174 : decode cX8_shift 174 = .ok (.laload, 1) := by decide +kernel
theorem dX8_shift_175 : decode cX8_shift 175 = .ok (.lastore, 1) := by decide +kernel
theorem dX8_shift_176 : decode cX8_shift 176 = .ok (.iinc 6 (-1), 3) := by decide +kernel
theorem dX8_shift_179 : decode cX8_shift 179 = .ok (.goto (-37), 3) := by decide +kernel
theorem dX8_shift_182 : decode cX8_shift 182 = .ok (.goto 48, 3) := by decide +kernel
theorem dX8_shift_185 : decode cX8_shift 185 = .ok (.iconst 0, 1) := by decide +kernel
theorem dX8_shift_186 : decode cX8_shift 186 = .ok (.istore 6, 2) := by decide +kernel
theorem dX8_shift_188 : decode cX8_shift 188 = .ok (.iload 6, 2) := by decide +kernel
theorem dX8_shift_190 : decode cX8_shift 190 = .ok (.iload 5, 2) := by decide +kernel
theorem dX8_shift_192 : decode cX8_shift 192 = .ok (.if_icmp .ge 38, 3) := by decide +kernel
theorem dX8_shift_195 : decode cX8_shift 195 = .ok (.aload_n 0, 1) := by decide +kernel
theorem dX8_shift_196 : decode cX8_shift 196 = .ok (.getfield 75, 3) := by decide +kernel
theorem dX8_shift_199 : decode cX8_shift 199 = .ok (.bipush 60, 2) := by decide +kernel
theorem dX8_shift_201 : decode cX8_shift 201 = .ok (.iload_n 3, 1) := by decide +kernel
theorem dX8_shift_202 : decode cX8_shift 202 = .ok (.imul, 1) := by decide +kernel
theorem dX8_shift_203 : decode cX8_shift 203 = .ok (.iload 4, 2) := by decide +kernel
theorem dX8_shift_205 : decode cX8_shift 205 = .ok (.iadd, 1) := by decide +kernel
theorem dX8_shift_206 : decode cX8_shift 206 = .ok (.iload 6, 2) := by decide +kernel
theorem dX8_shift_208 : decode cX8_shift 208 = .ok (.iadd, 1) := by decide +kernel
theorem dX8_shift_209 : decode cX8_shift 209 = .ok (.aload_n 0, 1) := by decide +kernel
theorem dX8_shift_210 : decode cX8_shift 210 = .ok (.getfield 75, 3) := by decide +kernel
theorem dX8_shift_213 : decode cX8_shift 213 = .ok (.bipush 60, 2) := by decide +kernel
theorem dX8_shift_215 : decode cX8_shift 215 = .ok (.iload_n 1, 1) := by decide +kernel
theorem dX8_shift_216 : decode cX8_shift 216 = .ok (.imul, 1) := by decide +kernel
theorem dX8_shift_217 : decode cX8_shift 217 = .ok (.iload_n 2, 1) := by decide +kernel
theorem dX8_shift_218 : decode cX8_shift 218 = .ok (.iadd, 1) := by decide +kernel
theorem dX8_shift_219 : decode cX8_shift 219 = .ok (.iload 6, 2) := by decide +kernel
theorem dX8_shift_221 : decode cX8_shift 221 = .ok (.iadd, 1) := by decide +kernel
theorem dX8_shift_222 : decode cX8_shift 222 = .ok (.laload, 1) := by decide +kernel
theorem dX8_shift_223 : decode cX8_shift 223 = .ok (.lastore, 1) := by decide +kernel
theorem dX8_shift_224 : decode cX8_shift 224 = .ok (.iinc 6 1, 3) := by decide +kernel
theorem dX8_shift_227 : decode cX8_shift 227 = .ok (.goto (-39), 3) := by decide +kernel
theorem dX8_shift_230 : decode cX8_shift 230 = .ok (.iload 5, 2) := by decide +kernel
theorem dX8_shift_232 : decode cX8_shift 232 = .ok (.ireturn, 1) := by decide +kernel
theorem dX8_taken_0 : decode cX8_taken 0 = .ok (.iload_n 1, 1) := by decide +kernel
theorem dX8_taken_1 : decode cX8_taken 1 = .ok (.invokestatic 106, 3) := by decide +kernel
theorem dX8_taken_4 : decode cX8_taken 4 = .ok (.ifCond .eq 13, 3) := by decide +kernel
theorem dX8_taken_7 : decode cX8_taken 7 = .ok (.iload_n 2, 1) := by decide +kernel
theorem dX8_taken_8 : decode cX8_taken 8 = .ok (.iconst 0, 1) := by decide +kernel
theorem dX8_taken_9 : decode cX8_taken 9 = .ok (.bipush 7, 2) := by decide +kernel
theorem dX8_taken_11 : decode cX8_taken 11 = .ok (.invokestatic 98, 3) := by decide +kernel
theorem dX8_taken_14 : decode cX8_taken 14 = .ok (.ifCond .ne 5, 3) := by decide +kernel
theorem dX8_taken_17 : decode cX8_taken 17 = .ok (.iconst (-1), 1) := by decide +kernel
theorem dX8_taken_18 : decode cX8_taken 18 = .ok (.ireturn, 1) := by decide +kernel
theorem dX8_taken_19 : decode cX8_taken 19 = .ok (.aload_n 0, 1) := by decide +kernel
theorem dX8_taken_20 : decode cX8_taken 20 = .ok (.getfield 69, 3) := by decide +kernel
theorem dX8_taken_23 : decode cX8_taken 23 = .ok (.iload_n 1, 1) := by decide +kernel
theorem dX8_taken_24 : decode cX8_taken 24 = .ok (.iaload, 1) := by decide +kernel
theorem dX8_taken_25 : decode cX8_taken 25 = .ok (.iconst (-1), 1) := by decide +kernel
theorem dX8_taken_26 : decode cX8_taken 26 = .ok (.if_icmp .ne 6, 3) := by decide +kernel
theorem dX8_taken_29 : decode cX8_taken 29 = .ok (.bipush (-11), 2) := by decide +kernel
theorem dX8_taken_31 : decode cX8_taken 31 = .ok (.ireturn, 1) := by decide +kernel
theorem dX8_taken_32 : decode cX8_taken 32 = .ok (.aload_n 0, 1) := by decide +kernel
theorem dX8_taken_33 : decode cX8_taken 33 = .ok (.iload_n 1, 1) := by decide +kernel
theorem dX8_taken_34 : decode cX8_taken 34 = .ok (.invokevirtual 329, 3) := by decide +kernel
theorem dX8_taken_37 : decode cX8_taken 37 = .ok (.ifCond .eq 6, 3) := by decide +kernel
theorem dX8_taken_40 : decode cX8_taken 40 = .ok (.bipush (-12), 2) := by decide +kernel
theorem dX8_taken_42 : decode cX8_taken 42 = .ok (.ireturn, 1) := by decide +kernel
theorem dX8_taken_43 : decode cX8_taken 43 = .ok (.aload_n 0, 1) := by decide +kernel
theorem dX8_taken_44 : decode cX8_taken 44 = .ok (.getfield 63, 3) := by decide +kernel
theorem dX8_taken_47 : decode cX8_taken 47 = .ok (.aload_n 0, 1) := by decide +kernel
theorem dX8_taken_48 : decode cX8_taken 48 = .ok (.getfield 69, 3) := by decide +kernel
theorem dX8_taken_51 : decode cX8_taken 51 = .ok (.iload_n 1, 1) := by decide +kernel
theorem dX8_taken_52 : decode cX8_taken 52 = .ok (.iaload, 1) := by decide +kernel
theorem dX8_taken_53 : decode cX8_taken 53 = .ok (.bipush 10, 2) := by decide +kernel
theorem dX8_taken_55 : decode cX8_taken 55 = .ok (.isub, 1) := by decide +kernel
theorem dX8_taken_56 : decode cX8_taken 56 = .ok (.iaload, 1) := by decide +kernel
theorem dX8_taken_57 : decode cX8_taken 57 = .ok (.istore_n 3, 1) := by decide +kernel
theorem dX8_taken_58 : decode cX8_taken 58 = .ok (.iload_n 3, 1) := by decide +kernel
theorem dX8_taken_59 : decode cX8_taken 59 = .ok (.istore 4, 2) := by decide +kernel
theorem dX8_taken_61 : decode cX8_taken 61 = .ok (.iload 4, 2) := by decide +kernel
theorem dX8_taken_63 : decode cX8_taken 63 = .ok (.iload_n 2, 1) := by decide +kernel
theorem dX8_taken_64 : decode cX8_taken 64 = .ok (.if_icmp .eq 18, 3) := by decide +kernel
theorem dX8_taken_67 : decode cX8_taken 67 = .ok (.iload 4, 2) := by decide +kernel
theorem dX8_taken_69 : decode cX8_taken 69 = .ok (.ifCond .le 13, 3) := by decide +kernel
theorem dX8_taken_72 : decode cX8_taken 72 = .ok (.iload 4, 2) := by decide +kernel
theorem dX8_taken_74 : decode cX8_taken 74 = .ok (.invokestatic 314, 3) := by decide +kernel
theorem dX8_taken_77 : decode cX8_taken 77 = .ok (.istore 4, 2) := by decide +kernel
theorem dX8_taken_79 : decode cX8_taken 79 = .ok (.goto (-18), 3) := by decide +kernel
theorem dX8_taken_82 : decode cX8_taken 82 = .ok (.iload 4, 2) := by decide +kernel
theorem dX8_taken_84 : decode cX8_taken 84 = .ok (.iload_n 2, 1) := by decide +kernel
theorem dX8_taken_85 : decode cX8_taken 85 = .ok (.if_icmp .ne 7, 3) := by decide +kernel
theorem dX8_taken_88 : decode cX8_taken 88 = .ok (.iload_n 3, 1) := by decide +kernel
theorem dX8_taken_89 : decode cX8_taken 89 = .ok (.goto 5, 3) := by decide +kernel
theorem dX8_taken_92 : decode cX8_taken 92 = .ok (.bipush (-12), 2) := by decide +kernel
theorem dX8_taken_94 : decode cX8_taken 94 = .ok (.ireturn, 1) := by decide +kernel
theorem dX8_count_0 : decode cX8_count 0 = .ok (.iload_n 1, 1) := by decide +kernel
theorem dX8_count_1 : decode cX8_count 1 = .ok (.tableswitch 80 0 5 #[39, 44, 60, 65, 70, 75], 39) := by decide +kernel
theorem dX8_count_40 : decode cX8_count 40 = .ok (.aload_n 0, 1) := by decide +kernel
theorem dX8_count_41 : decode cX8_count 41 = .ok (.getfield 94, 3) := by decide +kernel
theorem dX8_count_44 : decode cX8_count 44 = .ok (.ireturn, 1) := by decide +kernel
theorem dX8_count_45 : decode cX8_count 45 = .ok (.aload_n 0, 1) := by decide +kernel
theorem dX8_count_46 : decode cX8_count 46 = .ok (.iconst 1, 1) := by decide +kernel
theorem dX8_count_47 : decode cX8_count 47 = .ok (.aload_n 0, 1) := by decide +kernel
theorem dX8_count_48 : decode cX8_count 48 = .ok (.getfield 94, 3) := by decide +kernel
theorem dX8_count_51 : decode cX8_count 51 = .ok (.ishl, 1) := by decide +kernel
theorem dX8_count_52 : decode cX8_count 52 = .ok (.iconst 1, 1) := by decide +kernel
theorem dX8_count_53 : decode cX8_count 53 = .ok (.isub, 1) := by decide +kernel
theorem dX8_count_54 : decode cX8_count 54 = .ok (.invokevirtual 263, 3) := by decide +kernel
theorem dX8_count_57 : decode cX8_count 57 = .ok (.invokestatic 209, 3) := by decide +kernel
theorem dX8_count_60 : decode cX8_count 60 = .ok (.ireturn, 1) := by decide +kernel
theorem dX8_count_61 : decode cX8_count 61 = .ok (.aload_n 0, 1) := by decide +kernel
theorem dX8_count_62 : decode cX8_count 62 = .ok (.getfield 139, 3) := by decide +kernel
theorem dX8_count_65 : decode cX8_count 65 = .ok (.ireturn, 1) := by decide +kernel
theorem dX8_count_66 : decode cX8_count 66 = .ok (.aload_n 0, 1) := by decide +kernel
theorem dX8_count_67 : decode cX8_count 67 = .ok (.getfield 133, 3) := by decide +kernel
theorem dX8_count_70 : decode cX8_count 70 = .ok (.ireturn, 1) := by decide +kernel
theorem dX8_count_71 : decode cX8_count 71 = .ok (.aload_n 0, 1) := by decide +kernel
theorem dX8_count_72 : decode cX8_count 72 = .ok (.getfield 326, 3) := by decide +kernel
theorem dX8_count_75 : decode cX8_count 75 = .ok (.ireturn, 1) := by decide +kernel
theorem dX8_count_76 : decode cX8_count 76 = .ok (.aload_n 0, 1) := by decide +kernel
theorem dX8_count_77 : decode cX8_count 77 = .ok (.getfield 304, 3) := by decide +kernel
theorem dX8_count_80 : decode cX8_count 80 = .ok (.ireturn, 1) := by decide +kernel
theorem dX8_count_81 : decode cX8_count 81 = .ok (.iconst (-1), 1) := by decide +kernel
theorem dX8_count_82 : decode cX8_count 82 = .ok (.ireturn, 1) := by decide +kernel
