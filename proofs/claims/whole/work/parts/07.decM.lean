theorem dX8_within_0 : decode cX8_within 0 = .ok (.iload_n 0, 1) := by decide +kernel
theorem dX8_within_1 : decode cX8_within 1 = .ok (.iload_n 1, 1) := by decide +kernel
theorem dX8_within_2 : decode cX8_within 2 = .ok (.if_icmp .lt 12, 3) := by decide +kernel
theorem dX8_within_5 : decode cX8_within 5 = .ok (.iload_n 0, 1) := by decide +kernel
theorem dX8_within_6 : decode cX8_within 6 = .ok (.iload_n 2, 1) := by decide +kernel
theorem dX8_within_7 : decode cX8_within 7 = .ok (.if_icmp .gt 7, 3) := by decide +kernel
theorem dX8_within_10 : decode cX8_within 10 = .ok (.iconst 1, 1) := by decide +kernel
theorem dX8_within_11 : decode cX8_within 11 = .ok (.goto 4, 3) := by decide +kernel
theorem dX8_within_14 : decode cX8_within 14 = .ok (.iconst 0, 1) := by decide +kernel
theorem dX8_within_15 : decode cX8_within 15 = .ok (.ireturn, 1) := by decide +kernel
theorem dX8_isOne_0 : decode cX8_isOne 0 = .ok (.iload_n 1, 1) := by decide +kernel
theorem dX8_isOne_1 : decode cX8_isOne 1 = .ok (.iconst 0, 1) := by decide +kernel
theorem dX8_isOne_2 : decode cX8_isOne 2 = .ok (.aload_n 0, 1) := by decide +kernel
theorem dX8_isOne_3 : decode cX8_isOne 3 = .ok (.getfield 94, 3) := by decide +kernel
theorem dX8_isOne_6 : decode cX8_isOne 6 = .ok (.iconst 1, 1) := by decide +kernel
theorem dX8_isOne_7 : decode cX8_isOne 7 = .ok (.isub, 1) := by decide +kernel
theorem dX8_isOne_8 : decode cX8_isOne 8 = .ok (.invokestatic 98, 3) := by decide +kernel
theorem dX8_isOne_11 : decode cX8_isOne 11 = .ok (.ireturn, 1) := by decide +kernel
theorem dX8_isShelf_0 : decode cX8_isShelf 0 = .ok (.iload_n 0, 1) := by decide +kernel
theorem dX8_isShelf_1 : decode cX8_isShelf 1 = .ok (.iconst 0, 1) := by decide +kernel
theorem dX8_isShelf_2 : decode cX8_isShelf 2 = .ok (.iconst 5, 1) := by decide +kernel
theorem dX8_isShelf_3 : decode cX8_isShelf 3 = .ok (.invokestatic 98, 3) := by decide +kernel
theorem dX8_isShelf_6 : decode cX8_isShelf 6 = .ok (.ireturn, 1) := by decide +kernel
theorem dX8_has_0 : decode cX8_has 0 = .ok (.iload_n 0, 1) := by decide +kernel
theorem dX8_has_1 : decode cX8_has 1 = .ok (.iload_n 1, 1) := by decide +kernel
theorem dX8_has_2 : decode cX8_has 2 = .ok (.ishr, 1) := by decide +kernel
theorem dX8_has_3 : decode cX8_has 3 = .ok (.iconst 1, 1) := by decide +kernel
theorem dX8_has_4 : decode cX8_has 4 = .ok (.iand, 1) := by decide +kernel
theorem dX8_has_5 : decode cX8_has 5 = .ok (.iconst 1, 1) := by decide +kernel
theorem dX8_has_6 : decode cX8_has 6 = .ok (.if_icmp .ne 7, 3) := by decide +kernel
theorem dX8_has_9 : decode cX8_has 9 = .ok (.iconst 1, 1) := by decide +kernel
theorem dX8_has_10 : decode cX8_has 10 = .ok (.goto 4, 3) := by decide +kernel
theorem dX8_has_13 : decode cX8_has 13 = .ok (.iconst 0, 1) := by decide +kernel
theorem dX8_has_14 : decode cX8_has 14 = .ok (.ireturn, 1) := by decide +kernel
theorem dX8_newOne_0 : decode cX8_newOne 0 = .ok (.aload_n 0, 1) := by decide +kernel
theorem dX8_newOne_1 : decode cX8_newOne 1 = .ok (.getfield 9, 3) := by decide +kernel
theorem dX8_newOne_4 : decode cX8_newOne 4 = .ok (.aload_n 0, 1) := by decide +kernel
theorem dX8_newOne_5 : decode cX8_newOne 5 = .ok (.getfield 94, 3) := by decide +kernel
theorem dX8_newOne_8 : decode cX8_newOne 8 = .ok (.iload_n 1, 1) := by decide +kernel
theorem dX8_newOne_9 : decode cX8_newOne 9 = .ok (.iastore, 1) := by decide +kernel
theorem dX8_newOne_10 : decode cX8_newOne 10 = .ok (.aload_n 0, 1) := by decide +kernel
theorem dX8_newOne_11 : decode cX8_newOne 11 = .ok (.getfield 9, 3) := by decide +kernel
theorem dX8_newOne_14 : decode cX8_newOne 14 = .ok (.bipush 7, 2) := by decide +kernel
theorem dX8_newOne_16 : decode cX8_newOne 16 = .ok (.aload_n 0, 1) := by decide +kernel
theorem dX8_newOne_17 : decode cX8_newOne 17 = .ok (.getfield 94, 3) := by decide +kernel
theorem dX8_newOne_20 : decode cX8_newOne 20 = .ok (.iadd, 1) := by decide +kernel
theorem dX8_newOne_21 : decode cX8_newOne 21 = .ok (.iload_n 2, 1) := by decide +kernel
theorem dX8_newOne_22 : decode cX8_newOne 22 = .ok (.iastore, 1) := by decide +kernel
theorem dX8_newOne_23 : decode cX8_newOne 23 = .ok (.aload_n 0, 1) := by decide +kernel
theorem dX8_newOne_24 : decode cX8_newOne 24 = .ok (.getfield 9, 3) := by decide +kernel
theorem dX8_newOne_27 : decode cX8_newOne 27 = .ok (.bipush 14, 2) := by decide +kernel
theorem dX8_newOne_29 : decode cX8_newOne 29 = .ok (.aload_n 0, 1) := by decide +kernel
theorem dX8_newOne_30 : decode cX8_newOne 30 = .ok (.getfield 94, 3) := by decide +kernel
theorem dX8_newOne_33 : decode cX8_newOne 33 = .ok (.iadd, 1) := by decide +kernel
theorem dX8_newOne_34 : decode cX8_newOne 34 = .ok (.iload_n 3, 1) := by decide +kernel
theorem dX8_newOne_35 : decode cX8_newOne 35 = .ok (.iastore, 1) := by decide +kernel
theorem dX8_newOne_36 : decode cX8_newOne 36 = .ok (.aload_n 0, 1) := by decide +kernel
theorem dX8_newOne_37 : decode cX8_newOne 37 = .ok (.getfield 9, 3) := by decide +kernel
theorem dX8_newOne_40 : decode cX8_newOne 40 = .ok (.bipush 21, 2) := by decide +kernel
theorem dX8_newOne_42 : decode cX8_newOne 42 = .ok (.aload_n 0, 1) := by decide +kernel
theorem dX8_newOne_43 : decode cX8_newOne 43 = .ok (.getfield 94, 3) := by decide +kernel
theorem dX8_newOne_46 : decode cX8_newOne 46 = .ok (.iadd, 1) := by decide +kernel
theorem dX8_newOne_47 : decode cX8_newOne 47 = .ok (.iconst 3, 1) := by decide +kernel
theorem dX8_newOne_48 : decode cX8_newOne 48 = .ok (.iastore, 1) := by decide +kernel
theorem dX8_newOne_49 : decode cX8_newOne 49 = .ok (.aload_n 0, 1) := by decide +kernel
theorem dX8_newOne_50 : decode cX8_newOne 50 = .ok (.dup, 1) := by decide +kernel
theorem dX8_newOne_51 : decode cX8_newOne 51 = .ok (.getfield 94, 3) := by decide +kernel
theorem dX8_newOne_54 : decode cX8_newOne 54 = .ok (.dup_x1, 1) := by decide +kernel
theorem dX8_newOne_55 : decode cX8_newOne 55 = .ok (.iconst 1, 1) := by decide +kernel
theorem dX8_newOne_56 : decode cX8_newOne 56 = .ok (.iadd, 1) := by decide +kernel
theorem dX8_newOne_57 : decode cX8_newOne 57 = .ok (.putfield 94, 3) := by decide +kernel
theorem dX8_newOne_60 : decode cX8_newOne 60 = .ok (.ireturn, 1) := by decide +kernel
theorem dX8_brother_0 : decode cX8_brother 0 = .ok (.iload_n 1, 1) := by decide +kernel
theorem dX8_brother_1 : decode cX8_brother 1 = .ok (.iconst 0, 1) := by decide +kernel
theorem dX8_brother_2 : decode cX8_brother 2 = .ok (.bipush 127, 2) := by decide +kernel
theorem dX8_brother_4 : decode cX8_brother 4 = .ok (.invokestatic 98, 3) := by decide +kernel
theorem dX8_brother_7 : decode cX8_brother 7 = .ok (.ifCond .ne 5, 3) := by decide +kernel
theorem dX8_brother_10 : decode cX8_brother 10 = .ok (.iconst (-1), 1) := by decide +kernel
theorem dX8_brother_11 : decode cX8_brother 11 = .ok (.ireturn, 1) := by decide +kernel
theorem dX8_brother_12 : decode cX8_brother 12 = .ok (.aload_n 0, 1) := by decide +kernel
theorem dX8_brother_13 : decode cX8_brother 13 = .ok (.getfield 94, 3) := by decide +kernel
theorem dX8_brother_16 : decode cX8_brother 16 = .ok (.bipush 7, 2) := by decide +kernel
theorem dX8_brother_18 : decode cX8_brother 18 = .ok (.if_icmp .ne 8, 3) := by decide +kernel
theorem dX8_brother_21 : decode cX8_brother 21 = .ok (.bipush (-3), 2) := by decide +kernel
theorem dX8_brother_23 : decode cX8_brother 23 = .ok (.goto 10, 3) := by decide +kernel
theorem dX8_brother_26 : decode cX8_brother 26 = .ok (.aload_n 0, 1) := by decide +kernel
theorem dX8_brother_27 : decode cX8_brother 27 = .ok (.iload_n 1, 1) := by decide +kernel
theorem dX8_brother_28 : decode cX8_brother 28 = .ok (.iconst 0, 1) := by decide +kernel
theorem dX8_brother_29 : decode cX8_brother 29 = .ok (.iconst 0, 1) := by decide +kernel
theorem dX8_brother_30 : decode cX8_brother 30 = .ok (.invokevirtual 102, 3) := by decide +kernel
theorem dX8_brother_33 : decode cX8_brother 33 = .ok (.ireturn, 1) := by decide +kernel
theorem dX8_toldAt_0 : decode cX8_toldAt 0 = .ok (.aload_n 0, 1) := by decide +kernel
theorem dX8_toldAt_1 : decode cX8_toldAt 1 = .ok (.getfield 75, 3) := by decide +kernel
theorem dX8_toldAt_4 : decode cX8_toldAt 4 = .ok (.bipush 60, 2) := by decide +kernel
theorem dX8_toldAt_6 : decode cX8_toldAt 6 = .ok (.iload_n 1, 1) := by decide +kernel
theorem dX8_toldAt_7 : decode cX8_toldAt 7 = .ok (.imul, 1) := by decide +kernel
theorem dX8_toldAt_8 : decode cX8_toldAt 8 = .ok (.iload_n 2, 1) := by decide +kernel
theorem dX8_toldAt_9 : decode cX8_toldAt 9 = .ok (.iadd, 1) := by decide +kernel
theorem dX8_toldAt_10 : decode cX8_toldAt 10 = .ok (.laload, 1) := by decide +kernel
theorem dX8_toldAt_11 : decode cX8_toldAt 11 = .ok (.l2i, 1) := by decide +kernel
theorem dX8_toldAt_12 : decode cX8_toldAt 12 = .ok (.ireturn, 1) := by decide +kernel
theorem dX8_brothers_0 : decode cX8_brothers 0 = .ok (.iload_n 1, 1) := by decide +kernel
theorem dX8_brothers_1 : decode cX8_brothers 1 = .ok (.invokestatic 106, 3) := by decide +kernel
theorem dX8_brothers_4 : decode cX8_brothers 4 = .ok (.ifCond .eq 13, 3) := by decide +kernel
theorem dX8_brothers_7 : decode cX8_brothers 7 = .ok (.iload_n 3, 1) := by decide +kernel
theorem dX8_brothers_8 : decode cX8_brothers 8 = .ok (.iconst 1, 1) := by decide +kernel
theorem dX8_brothers_9 : decode cX8_brothers 9 = .ok (.bipush 7, 2) := by decide +kernel
theorem dX8_brothers_11 : decode cX8_brothers 11 = .ok (.invokestatic 98, 3) := by decide +kernel
theorem dX8_brothers_14 : decode cX8_brothers 14 = .ok (.ifCond .ne 5, 3) := by decide +kernel
theorem dX8_brothers_17 : decode cX8_brothers 17 = .ok (.iconst (-1), 1) := by decide +kernel
theorem dX8_brothers_18 : decode cX8_brothers 18 = .ok (.ireturn, 1) := by decide +kernel
theorem dX8_brothers_19 : decode cX8_brothers 19 = .ok (.aload_n 0, 1) := by decide +kernel
theorem dX8_brothers_20 : decode cX8_brothers 20 = .ok (.getfield 69, 3) := by decide +kernel
theorem dX8_brothers_23 : decode cX8_brothers 23 = .ok (.iload_n 1, 1) := by decide +kernel
theorem dX8_brothers_24 : decode cX8_brothers 24 = .ok (.iaload, 1) := by decide +kernel
theorem dX8_brothers_25 : decode cX8_brothers 25 = .ok (.iconst (-1), 1) := by decide +kernel
theorem dX8_brothers_26 : decode cX8_brothers 26 = .ok (.if_icmp .ne 5, 3) := by decide +kernel
theorem dX8_brothers_29 : decode cX8_brothers 29 = .ok (.iconst 0, 1) := by decide +kernel
theorem dX8_brothers_30 : decode cX8_brothers 30 = .ok (.ireturn, 1) := by decide +kernel
theorem dX8_brothers_31 : decode cX8_brothers 31 = .ok (.aload_n 0, 1) := by decide +kernel
theorem dX8_brothers_32 : decode cX8_brothers 32 = .ok (.getfield 69, 3) := by decide +kernel
theorem dX8_brothers_35 : decode cX8_brothers 35 = .ok (.iload_n 1, 1) := by decide +kernel
theorem dX8_brothers_36 : decode cX8_brothers 36 = .ok (.iaload, 1) := by decide +kernel
theorem dX8_brothers_37 : decode cX8_brothers 37 = .ok (.iconst 1, 1) := by decide +kernel
theorem dX8_brothers_38 : decode cX8_brothers 38 = .ok (.if_icmp .eq 6, 3) := by decide +kernel
theorem dX8_brothers_41 : decode cX8_brothers 41 = .ok (.bipush (-12), 2) := by decide +kernel
theorem dX8_brothers_43 : decode cX8_brothers 43 = .ok (.ireturn, 1) := by decide +kernel
theorem dX8_brothers_44 : decode cX8_brothers 44 = .ok (.iconst 0, 1) := by decide +kernel
theorem dX8_brothers_45 : decode cX8_brothers 45 = .ok (.istore 4, 2) := by decide +kernel
theorem dX8_brothers_47 : decode cX8_brothers 47 = .ok (.iconst 0, 1) := by decide +kernel
theorem dX8_brothers_48 : decode cX8_brothers 48 = .ok (.istore 5, 2) := by decide +kernel
theorem dX8_brothers_50 : decode cX8_brothers 50 = .ok (.iload 5, 2) := by decide +kernel
theorem dX8_brothers_52 : decode cX8_brothers 52 = .ok (.iload_n 3, 1) := by decide +kernel
theorem dX8_brothers_53 : decode cX8_brothers 53 = .ok (.if_icmp .ge 151, 3) := by decide +kernel
theorem dX8_brothers_56 : decode cX8_brothers 56 = .ok (.iload_n 2, 1) := by decide +kernel
theorem dX8_brothers_57 : decode cX8_brothers 57 = .ok (.i2l, 1) := by decide +kernel
theorem dX8_brothers_58 : decode cX8_brothers 58 = .ok (.ldc2_w 110, 3) := by decide +kernel
theorem dX8_brothers_61 : decode cX8_brothers 61 = .ok (.iload 5, 2) := by decide +kernel
theorem dX8_brothers_63 : decode cX8_brothers 63 = .ok (.i2l, 1) := by decide +kernel
theorem dX8_brothers_64 : decode cX8_brothers 64 = .ok (.lmul, 1) := by decide +kernel
theorem dX8_brothers_65 : decode cX8_brothers 65 = .ok (.ladd, 1) := by decide +kernel
theorem dX8_brothers_66 : decode cX8_brothers 66 = .ok (.lstore 6, 2) := by decide +kernel
theorem dX8_brothers_68 : decode cX8_brothers 68 = .ok (.lload 6, 2) := by decide +kernel
theorem dX8_brothers_70 : decode cX8_brothers 70 = .ok (.lconst 0, 1) := by decide +kernel
theorem dX8_brothers_71 : decode cX8_brothers 71 = .ok (.lcmp, 1) := by decide +kernel
theorem dX8_brothers_72 : decode cX8_brothers 72 = .ok (.ifCond .lt 29, 3) := by decide +kernel
theorem dX8_brothers_75 : decode cX8_brothers 75 = .ok (.lload 6, 2) := by decide +kernel
theorem dX8_brothers_77 : decode cX8_brothers 77 = .ok (.ldc2_w 110, 3) := by decide +kernel
theorem dX8_brothers_80 : decode cX8_brothers 80 = .ok (.ladd, 1) := by decide +kernel
theorem dX8_brothers_81 : decode cX8_brothers 81 = .ok (.aload_n 0, 1) := by decide +kernel
theorem dX8_brothers_82 : decode cX8_brothers 82 = .ok (.getfield 72, 3) := by decide +kernel
theorem dX8_brothers_85 : decode cX8_brothers 85 = .ok (.iload_n 1, 1) := by decide +kernel
theorem dX8_brothers_86 : decode cX8_brothers 86 = .ok (.iaload, 1) := by decide +kernel
theorem dX8_brothers_87 : decode cX8_brothers 87 = .ok (.i2l, 1) := by decide +kernel
theorem dX8_brothers_88 : decode cX8_brothers 88 = .ok (.lcmp, 1) := by decide +kernel
theorem dX8_brothers_89 : decode cX8_brothers 89 = .ok (.ifCond .gt 12, 3) := by decide +kernel
theorem dX8_brothers_92 : decode cX8_brothers 92 = .ok (.aload_n 0, 1) := by decide +kernel
theorem dX8_brothers_93 : decode cX8_brothers 93 = .ok (.getfield 94, 3) := by decide +kernel
theorem dX8_brothers_96 : decode cX8_brothers 96 = .ok (.bipush 7, 2) := by decide +kernel
theorem dX8_brothers_98 : decode cX8_brothers 98 = .ok (.if_icmp .ne 6, 3) := by decide +kernel
theorem dX8_brothers_101 : decode cX8_brothers 101 = .ok (.iload 4, 2) := by decide +kernel
theorem dX8_brothers_103 : decode cX8_brothers 103 = .ok (.ireturn, 1) := by decide +kernel
theorem dX8_brothers_104 : decode cX8_brothers 104 = .ok (.lload 6, 2) := by decide +kernel
theorem dX8_brothers_106 : decode cX8_brothers 106 = .ok (.l2i, 1) := by decide +kernel
theorem dX8_brothers_107 : decode cX8_brothers 107 = .ok (.istore 8, 2) := by decide +kernel
theorem dX8_brothers_109 : decode cX8_brothers 109 = .ok (.aload_n 0, 1) := by decide +kernel
theorem dX8_brothers_110 : decode cX8_brothers 110 = .ok (.iload_n 1, 1) := by decide +kernel
theorem dX8_brothers_111 : decode cX8_brothers 111 = .ok (.iload 8, 2) := by decide +kernel
theorem dX8_brothers_113 : decode cX8_brothers 113 = .ok (.invokevirtual 112, 3) := by decide +kernel
theorem dX8_brothers_116 : decode cX8_brothers 116 = .ok (.iconst 0, 1) := by decide +kernel
theorem dX8_brothers_117 : decode cX8_brothers 117 = .ok (.bipush 127, 2) := by decide +kernel
theorem dX8_brothers_119 : decode cX8_brothers 119 = .ok (.invokestatic 98, 3) := by decide +kernel
theorem dX8_brothers_122 : decode cX8_brothers 122 = .ok (.ifCond .eq 40, 3) := by decide +kernel
theorem dX8_brothers_125 : decode cX8_brothers 125 = .ok (.aload_n 0, 1) := by decide +kernel
theorem dX8_brothers_126 : decode cX8_brothers 126 = .ok (.iload_n 1, 1) := by decide +kernel
theorem dX8_brothers_127 : decode cX8_brothers 127 = .ok (.iload 8, 2) := by decide +kernel
theorem dX8_brothers_129 : decode cX8_brothers 129 = .ok (.iconst 1, 1) := by decide +kernel
theorem dX8_brothers_130 : decode cX8_brothers 130 = .ok (.iadd, 1) := by decide +kernel
theorem dX8_brothers_131 : decode cX8_brothers 131 = .ok (.invokevirtual 112, 3) := by decide +kernel
theorem dX8_brothers_134 : decode cX8_brothers 134 = .ok (.iconst 0, 1) := by decide +kernel
theorem dX8_brothers_135 : decode cX8_brothers 135 = .ok (.bipush 99, 2) := by decide +kernel
theorem dX8_brothers_137 : decode cX8_brothers 137 = .ok (.invokestatic 98, 3) := by decide +kernel
theorem dX8_brothers_140 : decode cX8_brothers 140 = .ok (.ifCond .eq 22, 3) := by decide +kernel
theorem dX8_brothers_143 : decode cX8_brothers 143 = .ok (.aload_n 0, 1) := by decide +kernel
theorem dX8_brothers_144 : decode cX8_brothers 144 = .ok (.iload_n 1, 1) := by decide +kernel
theorem dX8_brothers_145 : decode cX8_brothers 145 = .ok (.iload 8, 2) := by decide +kernel
theorem dX8_brothers_147 : decode cX8_brothers 147 = .ok (.iconst 2, 1) := by decide +kernel
theorem dX8_brothers_148 : decode cX8_brothers 148 = .ok (.iadd, 1) := by decide +kernel
theorem dX8_brothers_149 : decode cX8_brothers 149 = .ok (.invokevirtual 112, 3) := by decide +kernel
theorem dX8_brothers_152 : decode cX8_brothers 152 = .ok (.iconst 0, 1) := by decide +kernel
theorem dX8_brothers_153 : decode cX8_brothers 153 = .ok (.sipush 255, 3) := by decide +kernel
theorem dX8_brothers_156 : decode cX8_brothers 156 = .ok (.invokestatic 98, 3) := by decide +kernel
theorem dX8_brothers_159 : decode cX8_brothers 159 = .ok (.ifCond .ne 6, 3) := by decide +kernel
theorem dX8_brothers_162 : decode cX8_brothers 162 = .ok (.iload 4, 2) := by decide +kernel
theorem dX8_brothers_164 : decode cX8_brothers 164 = .ok (.ireturn, 1) := by decide +kernel
theorem dX8_brothers_165 : decode cX8_brothers 165 = .ok (.aload_n 0, 1) := by decide +kernel
theorem dX8_brothers_166 : decode cX8_brothers 166 = .ok (.aload_n 0, 1) := by decide +kernel
theorem dX8_brothers_167 : decode cX8_brothers 167 = .ok (.iload_n 1, 1) := by decide +kernel
theorem dX8_brothers_168 : decode cX8_brothers 168 = .ok (.iload 8, 2) := by decide +kernel
theorem dX8_brothers_170 : decode cX8_brothers 170 = .ok (.invokevirtual 112, 3) := by decide +kernel
theorem dX8_brothers_173 : decode cX8_brothers 173 = .ok (.aload_n 0, 1) := by decide +kernel
theorem dX8_brothers_174 : decode cX8_brothers 174 = .ok (.iload_n 1, 1) := by decide +kernel
theorem dX8_brothers_175 : decode cX8_brothers 175 = .ok (.iload 8, 2) := by decide +kernel
theorem dX8_brothers_177 : decode cX8_brothers 177 = .ok (.iconst 1, 1) := by decide +kernel
theorem dX8_brothers_178 : decode cX8_brothers 178 = .ok (.iadd, 1) := by decide +kernel
theorem dX8_brothers_179 : decode cX8_brothers 179 = .ok (.invokevirtual 112, 3) := by decide +kernel
theorem dX8_brothers_182 : decode cX8_brothers 182 = .ok (.aload_n 0, 1) := by decide +kernel
theorem dX8_brothers_183 : decode cX8_brothers 183 = .ok (.iload_n 1, 1) := by decide +kernel
theorem dX8_brothers_184 : decode cX8_brothers 184 = .ok (.iload 8, 2) := by decide +kernel
theorem dX8_brothers_186 : decode cX8_brothers 186 = .ok (.iconst 2, 1) := by decide +kernel
theorem dX8_brothers_187 : decode cX8_brothers 187 = .ok (.iadd, 1) := by decide +kernel
theorem dX8_brothers_188 : decode cX8_brothers 188 = .ok (.invokevirtual 112, 3) := by decide +kernel
theorem dX8_brothers_191 : decode cX8_brothers 191 = .ok (.invokevirtual 102, 3) := by decide +kernel
theorem dX8_brothers_194 : decode cX8_brothers 194 = .ok (.pop, 1) := by decide +kernel
theorem dX8_brothers_195 : decode cX8_brothers 195 = .ok (.iinc 4 1, 3) := by decide +kernel
theorem dX8_brothers_198 : decode cX8_brothers 198 = .ok (.iinc 5 1, 3) := by decide +kernel
theorem dX8_brothers_201 : decode cX8_brothers 201 = .ok (.goto (-151), 3) := by decide +kernel
theorem dX8_brothers_204 : decode cX8_brothers 204 = .ok (.iload 4, 2) := by decide +kernel
theorem dX8_brothers_206 : decode cX8_brothers 206 = .ok (.ireturn, 1) := by decide +kernel
theorem dX8_isOf_0 : decode cX8_isOf 0 = .ok (.iload_n 2, 1) := by decide +kernel
theorem dX8_isOf_1 : decode cX8_isOf 1 = .ok (.iconst 0, 1) := by decide +kernel
theorem dX8_isOf_2 : decode cX8_isOf 2 = .ok (.iconst 3, 1) := by decide +kernel
theorem dX8_isOf_3 : decode cX8_isOf 3 = .ok (.invokestatic 98, 3) := by decide +kernel
theorem dX8_isOf_6 : decode cX8_isOf 6 = .ok (.ifCond .eq 11, 3) := by decide +kernel
theorem dX8_isOf_9 : decode cX8_isOf 9 = .ok (.aload_n 0, 1) := by decide +kernel
theorem dX8_isOf_10 : decode cX8_isOf 10 = .ok (.iload_n 1, 1) := by decide +kernel
theorem dX8_isOf_11 : decode cX8_isOf 11 = .ok (.invokevirtual 116, 3) := by decide +kernel
theorem dX8_isOf_14 : decode cX8_isOf 14 = .ok (.goto 42, 3) := by decide +kernel
theorem dX8_isOf_17 : decode cX8_isOf 17 = .ok (.iload_n 2, 1) := by decide +kernel
theorem dX8_isOf_18 : decode cX8_isOf 18 = .ok (.iconst 4, 1) := by decide +kernel
theorem dX8_isOf_19 : decode cX8_isOf 19 = .ok (.iconst 5, 1) := by decide +kernel
theorem dX8_isOf_20 : decode cX8_isOf 20 = .ok (.invokestatic 98, 3) := by decide +kernel
theorem dX8_isOf_23 : decode cX8_isOf 23 = .ok (.ifCond .eq 13, 3) := by decide +kernel
theorem dX8_isOf_26 : decode cX8_isOf 26 = .ok (.iload_n 1, 1) := by decide +kernel
theorem dX8_isOf_27 : decode cX8_isOf 27 = .ok (.iconst 0, 1) := by decide +kernel
theorem dX8_isOf_28 : decode cX8_isOf 28 = .ok (.bipush 6, 2) := by decide +kernel
theorem dX8_isOf_30 : decode cX8_isOf 30 = .ok (.invokestatic 98, 3) := by decide +kernel
theorem dX8_isOf_33 : decode cX8_isOf 33 = .ok (.goto 23, 3) := by decide +kernel
theorem dX8_isOf_36 : decode cX8_isOf 36 = .ok (.iload_n 2, 1) := by decide +kernel
theorem dX8_isOf_37 : decode cX8_isOf 37 = .ok (.bipush 6, 2) := by decide +kernel
theorem dX8_isOf_39 : decode cX8_isOf 39 = .ok (.bipush 7, 2) := by decide +kernel
theorem dX8_isOf_41 : decode cX8_isOf 41 = .ok (.invokestatic 98, 3) := by decide +kernel
theorem dX8_isOf_44 : decode cX8_isOf 44 = .ok (.ifCond .eq 11, 3) := by decide +kernel
theorem dX8_isOf_47 : decode cX8_isOf 47 = .ok (.iload_n 1, 1) := by decide +kernel
theorem dX8_isOf_48 : decode cX8_isOf 48 = .ok (.ifCond .ne 7, 3) := by decide +kernel
theorem dX8_isOf_51 : decode cX8_isOf 51 = .ok (.iconst 1, 1) := by decide +kernel
theorem dX8_isOf_52 : decode cX8_isOf 52 = .ok (.goto 4, 3) := by decide +kernel
theorem dX8_isOf_55 : decode cX8_isOf 55 = .ok (.iconst 0, 1) := by decide +kernel
theorem dX8_isOf_56 : decode cX8_isOf 56 = .ok (.ireturn, 1) := by decide +kernel
theorem dX8_isFit_0 : decode cX8_isFit 0 = .ok (.iload_n 0, 1) := by decide +kernel
theorem dX8_isFit_1 : decode cX8_isFit 1 = .ok (.tableswitch 95 0 7 #[47, 95, 55, 64, 72, 79, 95, 87], 47) := by decide +kernel
theorem dX8_isFit_48 : decode cX8_isFit 48 = .ok (.iload_n 1, 1) := by decide +kernel
theorem dX8_isFit_49 : decode cX8_isFit 49 = .ok (.iconst 0, 1) := by decide +kernel
theorem dX8_isFit_50 : decode cX8_isFit 50 = .ok (.bipush 127, 2) := by decide +kernel
theorem dX8_isFit_52 : decode cX8_isFit 52 = .ok (.invokestatic 98, 3) := by decide +kernel
theorem dX8_isFit_55 : decode cX8_isFit 55 = .ok (.ireturn, 1) := by decide +kernel
theorem dX8_isFit_56 : decode cX8_isFit 56 = .ok (.iload_n 1, 1) := by decide +kernel
theorem dX8_isFit_57 : decode cX8_isFit 57 = .ok (.iconst 0, 1) := by decide +kernel
theorem dX8_isFit_58 : decode cX8_isFit 58 = .ok (.sipush 255, 3) := by decide +kernel
theorem dX8_isFit_61 : decode cX8_isFit 61 = .ok (.invokestatic 98, 3) := by decide +kernel
theorem dX8_isFit_64 : decode cX8_isFit 64 = .ok (.ireturn, 1) := by decide +kernel
theorem dX8_isFit_65 : decode cX8_isFit 65 = .ok (.iload_n 1, 1) := by decide +kernel
theorem dX8_isFit_66 : decode cX8_isFit 66 = .ok (.iconst 1, 1) := by decide +kernel
theorem dX8_isFit_67 : decode cX8_isFit 67 = .ok (.bipush 9, 2) := by decide +kernel
theorem dX8_isFit_69 : decode cX8_isFit 69 = .ok (.invokestatic 98, 3) := by decide +kernel
theorem dX8_isFit_72 : decode cX8_isFit 72 = .ok (.ireturn, 1) := by decide +kernel
theorem dX8_isFit_73 : decode cX8_isFit 73 = .ok (.iload_n 1, 1) := by decide +kernel
theorem dX8_isFit_74 : decode cX8_isFit 74 = .ok (.iconst 0, 1) := by decide +kernel
theorem dX8_isFit_75 : decode cX8_isFit 75 = .ok (.iconst 3, 1) := by decide +kernel
theorem dX8_isFit_76 : decode cX8_isFit 76 = .ok (.invokestatic 98, 3) := by decide +kernel
theorem dX8_isFit_79 : decode cX8_isFit 79 = .ok (.ireturn, 1) := by decide +kernel
theorem dX8_isFit_80 : decode cX8_isFit 80 = .ok (.iload_n 1, 1) := by decide +kernel
theorem dX8_isFit_81 : decode cX8_isFit 81 = .ok (.iconst 0, 1) := by decide +kernel
theorem dX8_isFit_82 : decode cX8_isFit 82 = .ok (.bipush 7, 2) := by decide +kernel
theorem dX8_isFit_84 : decode cX8_isFit 84 = .ok (.invokestatic 98, 3) := by decide +kernel
theorem dX8_isFit_87 : decode cX8_isFit 87 = .ok (.ireturn, 1) := by decide +kernel
theorem dX8_isFit_88 : decode cX8_isFit 88 = .ok (.iload_n 1, 1) := by decide +kernel
theorem dX8_isFit_89 : decode cX8_isFit 89 = .ok (.iconst 0, 1) := by decide +kernel
theorem dX8_isFit_90 : decode cX8_isFit 90 = .ok (.bipush 6, 2) := by decide +kernel
theorem dX8_isFit_92 : decode cX8_isFit 92 = .ok (.invokestatic 98, 3) := by decide +kernel
theorem dX8_isFit_95 : decode cX8_isFit 95 = .ok (.ireturn, 1) := by decide +kernel
theorem dX8_isFit_96 : decode cX8_isFit 96 = .ok (.iload_n 1, 1) := by decide +kernel
theorem dX8_isFit_97 : decode cX8_isFit 97 = .ok (.iconst 0, 1) := by decide +kernel
theorem dX8_isFit_98 : decode cX8_isFit 98 = .ok (.bipush 99, 2) := by decide +kernel
theorem dX8_isFit_100 : decode cX8_isFit 100 = .ok (.invokestatic 98, 3) := by decide +kernel
theorem dX8_isFit_103 : decode cX8_isFit 103 = .ok (.ireturn, 1) := by decide +kernel
theorem dX8_get_0 : decode cX8_get 0 = .ok (.iload_n 2, 1) := by decide +kernel
theorem dX8_get_1 : decode cX8_get 1 = .ok (.bipush 6, 2) := by decide +kernel
theorem dX8_get_3 : decode cX8_get 3 = .ok (.if_icmp .ge 17, 3) := by decide +kernel
theorem dX8_get_6 : decode cX8_get 6 = .ok (.aload_n 0, 1) := by decide +kernel
theorem dX8_get_7 : decode cX8_get 7 = .ok (.getfield 9, 3) := by decide +kernel
theorem dX8_get_10 : decode cX8_get 10 = .ok (.bipush 7, 2) := by decide +kernel
theorem dX8_get_12 : decode cX8_get 12 = .ok (.iload_n 2, 1) := by decide +kernel
theorem dX8_get_13 : decode cX8_get 13 = .ok (.imul, 1) := by decide +kernel
theorem dX8_get_14 : decode cX8_get 14 = .ok (.iload_n 1, 1) := by decide +kernel
theorem dX8_get_15 : decode cX8_get 15 = .ok (.iadd, 1) := by decide +kernel
theorem dX8_get_16 : decode cX8_get 16 = .ok (.iaload, 1) := by decide +kernel
theorem dX8_get_17 : decode cX8_get 17 = .ok (.goto 12, 3) := by decide +kernel
theorem dX8_get_20 : decode cX8_get 20 = .ok (.aload_n 0, 1) := by decide +kernel
theorem dX8_get_21 : decode cX8_get 21 = .ok (.getfield 15, 3) := by decide +kernel
theorem dX8_get_24 : decode cX8_get 24 = .ok (.iload_n 2, 1) := by decide +kernel
theorem dX8_get_25 : decode cX8_get 25 = .ok (.bipush 6, 2) := by decide +kernel
theorem dX8_get_27 : decode cX8_get 27 = .ok (.isub, 1) := by decide +kernel
theorem dX8_get_28 : decode cX8_get 28 = .ok (.iaload, 1) := by decide +kernel
theorem dX8_get_29 : decode cX8_get 29 = .ok (.ireturn, 1) := by decide +kernel
theorem dX8_becomes_0 : decode cX8_becomes 0 = .ok (.iload_n 2, 1) := by decide +kernel
theorem dX8_becomes_1 : decode cX8_becomes 1 = .ok (.bipush 6, 2) := by decide +kernel
theorem dX8_becomes_3 : decode cX8_becomes 3 = .ok (.if_icmp .ge 18, 3) := by decide +kernel
theorem dX8_becomes_6 : decode cX8_becomes 6 = .ok (.aload_n 0, 1) := by decide +kernel
theorem dX8_becomes_7 : decode cX8_becomes 7 = .ok (.getfield 9, 3) := by decide +kernel
theorem dX8_becomes_10 : decode cX8_becomes 10 = .ok (.bipush 7, 2) := by decide +kernel
theorem dX8_becomes_12 : decode cX8_becomes 12 = .ok (.iload_n 2, 1) := by decide +kernel
theorem dX8_becomes_13 : decode cX8_becomes 13 = .ok (.imul, 1) := by decide +kernel
theorem dX8_becomes_14 : decode cX8_becomes 14 = .ok (.iload_n 1, 1) := by decide +kernel
theorem dX8_becomes_15 : decode cX8_becomes 15 = .ok (.iadd, 1) := by decide +kernel
theorem dX8_becomes_16 : decode cX8_becomes 16 = .ok (.iload_n 3, 1) := by decide +kernel
theorem dX8_becomes_17 : decode cX8_becomes 17 = .ok (.iastore, 1) := by decide +kernel
theorem dX8_becomes_18 : decode cX8_becomes 18 = .ok (.goto 13, 3) := by decide +kernel
theorem dX8_becomes_21 : decode cX8_becomes 21 = .ok (.aload_n 0, 1) := by decide +kernel
theorem dX8_becomes_22 : decode cX8_becomes 22 = .ok (.getfield 15, 3) := by decide +kernel
theorem dX8_becomes_25 : decode cX8_becomes 25 = .ok (.iload_n 2, 1) := by decide +kernel
theorem dX8_becomes_26 : decode cX8_becomes 26 = .ok (.bipush 6, 2) := by decide +kernel
theorem dX8_becomes_28 : decode cX8_becomes 28 = .ok (.isub, 1) := by decide +kernel
theorem dX8_becomes_29 : decode cX8_becomes 29 = .ok (.iload_n 3, 1) := by decide +kernel
theorem dX8_becomes_30 : decode cX8_becomes 30 = .ok (.iastore, 1) := by decide +kernel
theorem dX8_becomes_31 : decode cX8_becomes 31 = .ok (.return_, 1) := by decide +kernel
theorem dX8_mend_0 : decode cX8_mend 0 = .ok (.aload_n 0, 1) := by decide +kernel
theorem dX8_mend_1 : decode cX8_mend 1 = .ok (.iload_n 1, 1) := by decide +kernel
theorem dX8_mend_2 : decode cX8_mend 2 = .ok (.iload_n 2, 1) := by decide +kernel
theorem dX8_mend_3 : decode cX8_mend 3 = .ok (.invokevirtual 119, 3) := by decide +kernel
theorem dX8_mend_6 : decode cX8_mend 6 = .ok (.ifCond .eq 11, 3) := by decide +kernel
theorem dX8_mend_9 : decode cX8_mend 9 = .ok (.iload_n 2, 1) := by decide +kernel
theorem dX8_mend_10 : decode cX8_mend 10 = .ok (.iload_n 3, 1) := by decide +kernel
theorem dX8_mend_11 : decode cX8_mend 11 = .ok (.invokestatic 123, 3) := by decide +kernel
theorem dX8_mend_14 : decode cX8_mend 14 = .ok (.ifCond .ne 5, 3) := by decide +kernel
theorem dX8_mend_17 : decode cX8_mend 17 = .ok (.iconst (-1), 1) := by decide +kernel
theorem dX8_mend_18 : decode cX8_mend 18 = .ok (.ireturn, 1) := by decide +kernel
theorem dX8_mend_19 : decode cX8_mend 19 = .ok (.aload_n 0, 1) := by decide +kernel
theorem dX8_mend_20 : decode cX8_mend 20 = .ok (.iload_n 1, 1) := by decide +kernel
theorem dX8_mend_21 : decode cX8_mend 21 = .ok (.iload_n 2, 1) := by decide +kernel
theorem dX8_mend_22 : decode cX8_mend 22 = .ok (.invokevirtual 126, 3) := by decide +kernel
theorem dX8_mend_25 : decode cX8_mend 25 = .ok (.istore 4, 2) := by decide +kernel
theorem dX8_mend_27 : decode cX8_mend 27 = .ok (.iload 4, 2) := by decide +kernel
theorem dX8_mend_29 : decode cX8_mend 29 = .ok (.iload_n 3, 1) := by decide +kernel
theorem dX8_mend_30 : decode cX8_mend 30 = .ok (.if_icmp .ne 6, 3) := by decide +kernel
theorem dX8_mend_33 : decode cX8_mend 33 = .ok (.iload 4, 2) := by decide +kernel
theorem dX8_mend_35 : decode cX8_mend 35 = .ok (.ireturn, 1) := by decide +kernel
theorem dX8_mend_36 : decode cX8_mend 36 = .ok (.aload_n 0, 1) := by decide +kernel
theorem dX8_mend_37 : decode cX8_mend 37 = .ok (.iload_n 1, 1) := by decide +kernel
theorem dX8_mend_38 : decode cX8_mend 38 = .ok (.iload_n 2, 1) := by decide +kernel
theorem dX8_mend_39 : decode cX8_mend 39 = .ok (.iload_n 3, 1) := by decide +kernel
theorem dX8_mend_40 : decode cX8_mend 40 = .ok (.invokevirtual 129, 3) := by decide +kernel
theorem dX8_mend_43 : decode cX8_mend 43 = .ok (.aload_n 0, 1) := by decide +kernel
theorem dX8_mend_44 : decode cX8_mend 44 = .ok (.getfield 133, 3) := by decide +kernel
theorem dX8_mend_47 : decode cX8_mend 47 = .ok (.bipush 40, 2) := by decide +kernel
theorem dX8_mend_49 : decode cX8_mend 49 = .ok (.if_icmp .ne 46, 3) := by decide +kernel
theorem dX8_mend_52 : decode cX8_mend 52 = .ok (.iconst 0, 1) := by decide +kernel
theorem dX8_mend_53 : decode cX8_mend 53 = .ok (.istore 5, 2) := by decide +kernel
theorem dX8_mend_55 : decode cX8_mend 55 = .ok (.iload 5, 2) := by decide +kernel
theorem dX8_mend_57 : decode cX8_mend 57 = .ok (.sipush 156, 3) := by decide +kernel
theorem dX8_mend_60 : decode cX8_mend 60 = .ok (.if_icmp .ge 25, 3) := by decide +kernel
theorem dX8_mend_63 : decode cX8_mend 63 = .ok (.aload_n 0, 1) := by decide +kernel
theorem dX8_mend_64 : decode cX8_mend 64 = .ok (.getfield 60, 3) := by decide +kernel
theorem dX8_mend_67 : decode cX8_mend 67 = .ok (.iload 5, 2) := by decide +kernel
theorem dX8_mend_69 : decode cX8_mend 69 = .ok (.aload_n 0, 1) := by decide +kernel
theorem dX8_mend_70 : decode cX8_mend 70 = .ok (.getfield 60, 3) := by decide +kernel
theorem dX8_mend_73 : decode cX8_mend 73 = .ok (.iload 5, 2) := by decide +kernel
theorem dX8_mend_75 : decode cX8_mend 75 = .ok (.iconst 4, 1) := by decide +kernel
theorem dX8_mend_76 : decode cX8_mend 76 = .ok (.iadd, 1) := by decide +kernel
theorem dX8_mend_77 : decode cX8_mend 77 = .ok (.iaload, 1) := by decide +kernel
theorem dX8_mend_78 : decode cX8_mend 78 = .ok (.iastore, 1) := by decide +kernel
theorem dX8_mend_79 : decode cX8_mend 79 = .ok (.iinc 5 1, 3) := by decide +kernel
theorem dX8_mend_82 : decode cX8_mend 82 = .ok (.goto (-27), 3) := by decide +kernel
theorem dX8_mend_85 : decode cX8_mend 85 = .ok (.aload_n 0, 1) := by decide +kernel
theorem dX8_mend_86 : decode cX8_mend 86 = .ok (.dup, 1) := by decide +kernel
theorem dX8_mend_87 : decode cX8_mend 87 = .ok (.getfield 133, 3) := by decide +kernel
theorem dX8_mend_90 : decode cX8_mend 90 = .ok (.iconst 1, 1) := by decide +kernel
theorem dX8_mend_91 : decode cX8_mend 91 = .ok (.isub, 1) := by decide +kernel
theorem dX8_mend_92 : decode cX8_mend 92 = .ok (.putfield 133, 3) := by decide +kernel
theorem dX8_mend_95 : decode cX8_mend 95 = .ok (.aload_n 0, 1) := by decide +kernel
theorem dX8_mend_96 : decode cX8_mend 96 = .ok (.getfield 60, 3) := by decide +kernel
theorem dX8_mend_99 : decode cX8_mend 99 = .ok (.iconst 4, 1) := by decide +kernel
theorem dX8_mend_100 : decode cX8_mend 100 = .ok (.aload_n 0, 1) := by decide +kernel
theorem dX8_mend_101 : decode cX8_mend 101 = .ok (.getfield 133, 3) := by decide +kernel
theorem dX8_mend_104 : decode cX8_mend 104 = .ok (.imul, 1) := by decide +kernel
theorem dX8_mend_105 : decode cX8_mend 105 = .ok (.iload_n 1, 1) := by decide +kernel
theorem dX8_mend_106 : decode cX8_mend 106 = .ok (.iastore, 1) := by decide +kernel
theorem dX8_mend_107 : decode cX8_mend 107 = .ok (.aload_n 0, 1) := by decide +kernel
theorem dX8_mend_108 : decode cX8_mend 108 = .ok (.getfield 60, 3) := by decide +kernel
theorem dX8_mend_111 : decode cX8_mend 111 = .ok (.iconst 4, 1) := by decide +kernel
theorem dX8_mend_112 : decode cX8_mend 112 = .ok (.aload_n 0, 1) := by decide +kernel
theorem dX8_mend_113 : decode cX8_mend 113 = .ok (.getfield 133, 3) := by decide +kernel
theorem dX8_mend_116 : decode cX8_mend 116 = .ok (.imul, 1) := by decide +kernel
theorem dX8_mend_117 : decode cX8_mend 117 = .ok (.iconst 1, 1) := by decide +kernel
theorem dX8_mend_118 : decode cX8_mend 118 = .ok (.iadd, 1) := by decide +kernel
theorem dX8_mend_119 : decode cX8_mend 119 = .ok (.iload_n 2, 1) := by decide +kernel
theorem dX8_mend_120 : decode cX8_mend 120 = .ok (.iastore, 1) := by decide +kernel
theorem dX8_mend_121 : decode cX8_mend 121 = .ok (.aload_n 0, 1) := by decide +kernel
theorem dX8_mend_122 : decode cX8_mend 122 = .ok (.getfield 60, 3) := by decide +kernel
theorem dX8_mend_125 : decode cX8_mend 125 = .ok (.iconst 4, 1) := by decide +kernel
theorem dX8_mend_126 : decode cX8_mend 126 = .ok (.aload_n 0, 1) := by decide +kernel
theorem dX8_mend_127 : decode cX8_mend 127 = .ok (.getfield 133, 3) := by decide +kernel
theorem dX8_mend_130 : decode cX8_mend 130 = .ok (.imul, 1) := by decide +kernel
theorem dX8_mend_131 : decode cX8_mend 131 = .ok (.iconst 2, 1) := by decide +kernel
theorem dX8_mend_132 : decode cX8_mend 132 = .ok (.iadd, 1) := by decide +kernel
theorem dX8_mend_133 : decode cX8_mend 133 = .ok (.iload 4, 2) := by decide +kernel
theorem dX8_mend_135 : decode cX8_mend 135 = .ok (.iastore, 1) := by decide +kernel
theorem dX8_mend_136 : decode cX8_mend 136 = .ok (.aload_n 0, 1) := by decide +kernel
theorem dX8_mend_137 : decode cX8_mend 137 = .ok (.getfield 60, 3) := by decide +kernel
theorem dX8_mend_140 : decode cX8_mend 140 = .ok (.iconst 4, 1) := by decide +kernel
theorem dX8_mend_141 : decode cX8_mend 141 = .ok (.aload_n 0, 1) := by decide +kernel
theorem dX8_mend_142 : decode cX8_mend 142 = .ok (.getfield 133, 3) := by decide +kernel
theorem dX8_mend_145 : decode cX8_mend 145 = .ok (.imul, 1) := by decide +kernel
theorem dX8_mend_146 : decode cX8_mend 146 = .ok (.iconst 3, 1) := by decide +kernel
theorem dX8_mend_147 : decode cX8_mend 147 = .ok (.iadd, 1) := by decide +kernel
theorem dX8_mend_148 : decode cX8_mend 148 = .ok (.iload_n 3, 1) := by decide +kernel
theorem dX8_mend_149 : decode cX8_mend 149 = .ok (.iastore, 1) := by decide +kernel
theorem dX8_mend_150 : decode cX8_mend 150 = .ok (.aload_n 0, 1) := by decide +kernel
theorem dX8_mend_151 : decode cX8_mend 151 = .ok (.dup, 1) := by decide +kernel
theorem dX8_mend_152 : decode cX8_mend 152 = .ok (.getfield 133, 3) := by decide +kernel
theorem dX8_mend_155 : decode cX8_mend 155 = .ok (.iconst 1, 1) := by decide +kernel
theorem dX8_mend_156 : decode cX8_mend 156 = .ok (.iadd, 1) := by decide +kernel
theorem dX8_mend_157 : decode cX8_mend 157 = .ok (.putfield 133, 3) := by decide +kernel
theorem dX8_mend_160 : decode cX8_mend 160 = .ok (.aload_n 0, 1) := by decide +kernel
theorem dX8_mend_161 : decode cX8_mend 161 = .ok (.aload_n 0, 1) := by decide +kernel
theorem dX8_mend_162 : decode cX8_mend 162 = .ok (.getfield 133, 3) := by decide +kernel
theorem dX8_mend_165 : decode cX8_mend 165 = .ok (.putfield 136, 3) := by decide +kernel
theorem dX8_mend_168 : decode cX8_mend 168 = .ok (.iload 4, 2) := by decide +kernel
theorem dX8_mend_170 : decode cX8_mend 170 = .ok (.ireturn, 1) := by decide +kernel
theorem dX8_of_0 : decode cX8_of 0 = .ok (.aload_n 0, 1) := by decide +kernel
theorem dX8_of_1 : decode cX8_of 1 = .ok (.iload_n 1, 1) := by decide +kernel
theorem dX8_of_2 : decode cX8_of 2 = .ok (.iload_n 2, 1) := by decide +kernel
theorem dX8_of_3 : decode cX8_of 3 = .ok (.invokevirtual 119, 3) := by decide +kernel
theorem dX8_of_6 : decode cX8_of 6 = .ok (.ifCond .eq 12, 3) := by decide +kernel
theorem dX8_of_9 : decode cX8_of 9 = .ok (.aload_n 0, 1) := by decide +kernel
theorem dX8_of_10 : decode cX8_of 10 = .ok (.iload_n 1, 1) := by decide +kernel
theorem dX8_of_11 : decode cX8_of 11 = .ok (.iload_n 2, 1) := by decide +kernel
theorem dX8_of_12 : decode cX8_of 12 = .ok (.invokevirtual 126, 3) := by decide +kernel
theorem dX8_of_15 : decode cX8_of 15 = .ok (.goto 4, 3) := by decide +kernel
theorem dX8_of_18 : decode cX8_of 18 = .ok (.iconst (-1), 1) := by decide +kernel
theorem dX8_of_19 : decode cX8_of 19 = .ok (.ireturn, 1) := by decide +kernel
theorem dX8_undo_0 : decode cX8_undo 0 = .ok (.aload_n 0, 1) := by decide +kernel
theorem dX8_undo_1 : decode cX8_undo 1 = .ok (.getfield 133, 3) := by decide +kernel
theorem dX8_undo_4 : decode cX8_undo 4 = .ok (.ifCond .ne 6, 3) := by decide +kernel
theorem dX8_undo_7 : decode cX8_undo 7 = .ok (.bipush (-5), 2) := by decide +kernel
theorem dX8_undo_9 : decode cX8_undo 9 = .ok (.ireturn, 1) := by decide +kernel
theorem dX8_undo_10 : decode cX8_undo 10 = .ok (.aload_n 0, 1) := by decide +kernel
theorem dX8_undo_11 : decode cX8_undo 11 = .ok (.dup, 1) := by decide +kernel
theorem dX8_undo_12 : decode cX8_undo 12 = .ok (.getfield 133, 3) := by decide +kernel
theorem dX8_undo_15 : decode cX8_undo 15 = .ok (.iconst 1, 1) := by decide +kernel
theorem dX8_undo_16 : decode cX8_undo 16 = .ok (.isub, 1) := by decide +kernel
theorem dX8_undo_17 : decode cX8_undo 17 = .ok (.putfield 133, 3) := by decide +kernel
theorem dX8_undo_20 : decode cX8_undo 20 = .ok (.aload_n 0, 1) := by decide +kernel
theorem dX8_undo_21 : decode cX8_undo 21 = .ok (.aload_n 0, 1) := by decide +kernel
theorem dX8_undo_22 : decode cX8_undo 22 = .ok (.getfield 60, 3) := by decide +kernel
theorem dX8_undo_25 : decode cX8_undo 25 = .ok (.iconst 4, 1) := by decide +kernel
theorem dX8_undo_26 : decode cX8_undo 26 = .ok (.aload_n 0, 1) := by decide +kernel
theorem dX8_undo_27 : decode cX8_undo 27 = .ok (.getfield 133, 3) := by decide +kernel
theorem dX8_undo_30 : decode cX8_undo 30 = .ok (.imul, 1) := by decide +kernel
theorem dX8_undo_31 : decode cX8_undo 31 = .ok (.iaload, 1) := by decide +kernel
theorem dX8_undo_32 : decode cX8_undo 32 = .ok (.aload_n 0, 1) := by decide +kernel
theorem dX8_undo_33 : decode cX8_undo 33 = .ok (.getfield 60, 3) := by decide +kernel
theorem dX8_undo_36 : decode cX8_undo 36 = .ok (.iconst 4, 1) := by decide +kernel
theorem dX8_undo_37 : decode cX8_undo 37 = .ok (.aload_n 0, 1) := by decide +kernel
theorem dX8_undo_38 : decode cX8_undo 38 = .ok (.getfield 133, 3) := by decide +kernel
theorem dX8_undo_41 : decode cX8_undo 41 = .ok (.imul, 1) := by decide +kernel
theorem dX8_undo_42 : decode cX8_undo 42 = .ok (.iconst 1, 1) := by decide +kernel
theorem dX8_undo_43 : decode cX8_undo 43 = .ok (.iadd, 1) := by decide +kernel
theorem dX8_undo_44 : decode cX8_undo 44 = .ok (.iaload, 1) := by decide +kernel
theorem dX8_undo_45 : decode cX8_undo 45 = .ok (.aload_n 0, 1) := by decide +kernel
theorem dX8_undo_46 : decode cX8_undo 46 = .ok (.getfield 60, 3) := by decide +kernel
theorem dX8_undo_49 : decode cX8_undo 49 = .ok (.iconst 4, 1) := by decide +kernel
theorem dX8_undo_50 : decode cX8_undo 50 = .ok (.aload_n 0, 1) := by decide +kernel
theorem dX8_undo_51 : decode cX8_undo 51 = .ok (.getfield 133, 3) := by decide +kernel
theorem dX8_undo_54 : decode cX8_undo 54 = .ok (.imul, 1) := by decide +kernel
theorem dX8_undo_55 : decode cX8_undo 55 = .ok (.iconst 2, 1) := by decide +kernel
theorem dX8_undo_56 : decode cX8_undo 56 = .ok (.iadd, 1) := by decide +kernel
theorem dX8_undo_57 : decode cX8_undo 57 = .ok (.iaload, 1) := by decide +kernel
theorem dX8_undo_58 : decode cX8_undo 58 = .ok (.invokevirtual 129, 3) := by decide +kernel
theorem dX8_undo_61 : decode cX8_undo 61 = .ok (.aload_n 0, 1) := by decide +kernel
theorem dX8_undo_62 : decode cX8_undo 62 = .ok (.getfield 133, 3) := by decide +kernel
theorem dX8_undo_65 : decode cX8_undo 65 = .ok (.ireturn, 1) := by decide +kernel
theorem dX8_redo_0 : decode cX8_redo 0 = .ok (.aload_n 0, 1) := by decide +kernel
theorem dX8_redo_1 : decode cX8_redo 1 = .ok (.getfield 133, 3) := by decide +kernel
theorem dX8_redo_4 : decode cX8_redo 4 = .ok (.aload_n 0, 1) := by decide +kernel
theorem dX8_redo_5 : decode cX8_redo 5 = .ok (.getfield 136, 3) := by decide +kernel
theorem dX8_redo_8 : decode cX8_redo 8 = .ok (.if_icmp .ne 6, 3) := by decide +kernel
theorem dX8_redo_11 : decode cX8_redo 11 = .ok (.bipush (-5), 2) := by decide +kernel
theorem dX8_redo_13 : decode cX8_redo 13 = .ok (.ireturn, 1) := by decide +kernel
theorem dX8_redo_14 : decode cX8_redo 14 = .ok (.aload_n 0, 1) := by decide +kernel
theorem dX8_redo_15 : decode cX8_redo 15 = .ok (.aload_n 0, 1) := by decide +kernel
theorem dX8_redo_16 : decode cX8_redo 16 = .ok (.getfield 60, 3) := by decide +kernel
theorem dX8_redo_19 : decode cX8_redo 19 = .ok (.iconst 4, 1) := by decide +kernel
theorem dX8_redo_20 : decode cX8_redo 20 = .ok (.aload_n 0, 1) := by decide +kernel
theorem dX8_redo_21 : decode cX8_redo 21 = .ok (.getfield 133, 3) := by decide +kernel
theorem dX8_redo_24 : decode cX8_redo 24 = .ok (.imul, 1) := by decide +kernel
theorem dX8_redo_25 : decode cX8_redo 25 = .ok (.iaload, 1) := by decide +kernel
theorem dX8_redo_26 : decode cX8_redo 26 = .ok (.aload_n 0, 1) := by decide +kernel
theorem dX8_redo_27 : decode cX8_redo 27 = .ok (.getfield 60, 3) := by decide +kernel
theorem dX8_redo_30 : decode cX8_redo 30 = .ok (.iconst 4, 1) := by decide +kernel
theorem dX8_redo_31 : decode cX8_redo 31 = .ok (.aload_n 0, 1) := by decide +kernel
theorem dX8_redo_32 : decode cX8_redo 32 = .ok (.getfield 133, 3) := by decide +kernel
theorem dX8_redo_35 : decode cX8_redo 35 = .ok (.imul, 1) := by decide +kernel
theorem dX8_redo_36 : decode cX8_redo 36 = .ok (.iconst 1, 1) := by decide +kernel
theorem dX8_redo_37 : decode cX8_redo 37 = .ok (.iadd, 1) := by decide +kernel
theorem dX8_redo_38 : decode cX8_redo 38 = .ok (.iaload, 1) := by decide +kernel
theorem dX8_redo_39 : decode cX8_redo 39 = .ok (.aload_n 0, 1) := by decide +kernel
theorem dX8_redo_40 : decode cX8_redo 40 = .ok (.getfield 60, 3) := by decide +kernel
theorem dX8_redo_43 : decode cX8_redo 43 = .ok (.iconst 4, 1) := by decide +kernel
theorem dX8_redo_44 : decode cX8_redo 44 = .ok (.aload_n 0, 1) := by decide +kernel
theorem dX8_redo_45 : decode cX8_redo 45 = .ok (.getfield 133, 3) := by decide +kernel
theorem dX8_redo_48 : decode cX8_redo 48 = .ok (.imul, 1) := by decide +kernel
theorem dX8_redo_49 : decode cX8_redo 49 = .ok (.iconst 3, 1) := by decide +kernel
theorem dX8_redo_50 : decode cX8_redo 50 = .ok (.iadd, 1) := by decide +kernel
theorem dX8_redo_51 : decode cX8_redo 51 = .ok (.iaload, 1) := by decide +kernel
theorem dX8_redo_52 : decode cX8_redo 52 = .ok (.invokevirtual 129, 3) := by decide +kernel
theorem dX8_redo_55 : decode cX8_redo 55 = .ok (.aload_n 0, 1) := by decide +kernel
theorem dX8_redo_56 : decode cX8_redo 56 = .ok (.dup, 1) := by decide +kernel
theorem dX8_redo_57 : decode cX8_redo 57 = .ok (.getfield 133, 3) := by decide +kernel
theorem dX8_redo_60 : decode cX8_redo 60 = .ok (.iconst 1, 1) := by decide +kernel
theorem dX8_redo_61 : decode cX8_redo 61 = .ok (.iadd, 1) := by decide +kernel
theorem dX8_redo_62 : decode cX8_redo 62 = .ok (.putfield 133, 3) := by decide +kernel
theorem dX8_redo_65 : decode cX8_redo 65 = .ok (.aload_n 0, 1) := by decide +kernel
theorem dX8_redo_66 : decode cX8_redo 66 = .ok (.getfield 136, 3) := by decide +kernel
theorem dX8_redo_69 : decode cX8_redo 69 = .ok (.aload_n 0, 1) := by decide +kernel
theorem dX8_redo_70 : decode cX8_redo 70 = .ok (.getfield 133, 3) := by decide +kernel
theorem dX8_redo_73 : decode cX8_redo 73 = .ok (.isub, 1) := by decide +kernel
theorem dX8_redo_74 : decode cX8_redo 74 = .ok (.ireturn, 1) := by decide +kernel
theorem dX8_feed_0 : decode cX8_feed 0 = .ok (.iload_n 1, 1) := by decide +kernel
theorem dX8_feed_1 : decode cX8_feed 1 = .ok (.iconst 0, 1) := by decide +kernel
theorem dX8_feed_2 : decode cX8_feed 2 = .ok (.sipush 255, 3) := by decide +kernel
theorem dX8_feed_5 : decode cX8_feed 5 = .ok (.invokestatic 98, 3) := by decide +kernel
theorem dX8_feed_8 : decode cX8_feed 8 = .ok (.ifCond .ne 5, 3) := by decide +kernel
theorem dX8_feed_11 : decode cX8_feed 11 = .ok (.iconst (-1), 1) := by decide +kernel
theorem dX8_feed_12 : decode cX8_feed 12 = .ok (.ireturn, 1) := by decide +kernel
theorem dX8_feed_13 : decode cX8_feed 13 = .ok (.aload_n 0, 1) := by decide +kernel
theorem dX8_feed_14 : decode cX8_feed 14 = .ok (.getfield 139, 3) := by decide +kernel
theorem dX8_feed_17 : decode cX8_feed 17 = .ok (.bipush 120, 2) := by decide +kernel
theorem dX8_feed_19 : decode cX8_feed 19 = .ok (.if_icmp .ne 6, 3) := by decide +kernel
theorem dX8_feed_22 : decode cX8_feed 22 = .ok (.bipush (-3), 2) := by decide +kernel
theorem dX8_feed_24 : decode cX8_feed 24 = .ok (.ireturn, 1) := by decide +kernel
theorem dX8_feed_25 : decode cX8_feed 25 = .ok (.aload_n 0, 1) := by decide +kernel
theorem dX8_feed_26 : decode cX8_feed 26 = .ok (.getfield 18, 3) := by decide +kernel
theorem dX8_feed_29 : decode cX8_feed 29 = .ok (.aload_n 0, 1) := by decide +kernel
theorem dX8_feed_30 : decode cX8_feed 30 = .ok (.dup, 1) := by decide +kernel
theorem dX8_feed_31 : decode cX8_feed 31 = .ok (.getfield 139, 3) := by decide +kernel
theorem dX8_feed_34 : decode cX8_feed 34 = .ok (.dup_x1, 1) := by decide +kernel
theorem dX8_feed_35 : decode cX8_feed 35 = .ok (.iconst 1, 1) := by decide +kernel
theorem dX8_feed_36 : decode cX8_feed 36 = .ok (.iadd, 1) := by decide +kernel
theorem dX8_feed_37 : decode cX8_feed 37 = .ok (.putfield 139, 3) := by decide +kernel
theorem dX8_feed_40 : decode cX8_feed 40 = .ok (.iload_n 1, 1) := by decide +kernel
theorem dX8_feed_41 : decode cX8_feed 41 = .ok (.iastore, 1) := by decide +kernel
theorem dX8_feed_42 : decode cX8_feed 42 = .ok (.aload_n 0, 1) := by decide +kernel
theorem dX8_feed_43 : decode cX8_feed 43 = .ok (.getfield 139, 3) := by decide +kernel
theorem dX8_feed_46 : decode cX8_feed 46 = .ok (.ireturn, 1) := by decide +kernel
theorem dX8_sign_0 : decode cX8_sign 0 = .ok (.aload_n 0, 1) := by decide +kernel
theorem dX8_sign_1 : decode cX8_sign 1 = .ok (.getfield 142, 3) := by decide +kernel
theorem dX8_sign_4 : decode cX8_sign 4 = .ok (.aload_n 0, 1) := by decide +kernel
theorem dX8_sign_5 : decode cX8_sign 5 = .ok (.getfield 139, 3) := by decide +kernel
theorem dX8_sign_8 : decode cX8_sign 8 = .ok (.if_icmp .ge 15, 3) := by decide +kernel
theorem dX8_sign_11 : decode cX8_sign 11 = .ok (.aload_n 0, 1) := by decide +kernel
theorem dX8_sign_12 : decode cX8_sign 12 = .ok (.getfield 18, 3) := by decide +kernel
theorem dX8_sign_15 : decode cX8_sign 15 = .ok (.aload_n 0, 1) := by decide +kernel
theorem dX8_sign_16 : decode cX8_sign 16 = .ok (.getfield 142, 3) := by decide +kernel
theorem dX8_sign_19 : decode cX8_sign 19 = .ok (.iaload, 1) := by decide +kernel
theorem dX8_sign_20 : decode cX8_sign 20 = .ok (.goto 4, 3) := by decide +kernel
theorem dX8_sign_23 : decode cX8_sign 23 = .ok (.iconst (-1), 1) := by decide +kernel
theorem dX8_sign_24 : decode cX8_sign 24 = .ok (.ireturn, 1) := by decide +kernel
theorem dX8_is_0 : decode cX8_is 0 = .ok (.aload_n 0, 1) := by decide +kernel
theorem dX8_is_1 : decode cX8_is 1 = .ok (.invokevirtual 145, 3) := by decide +kernel
theorem dX8_is_4 : decode cX8_is 4 = .ok (.iload_n 1, 1) := by decide +kernel
theorem dX8_is_5 : decode cX8_is 5 = .ok (.if_icmp .eq 5, 3) := by decide +kernel
theorem dX8_is_8 : decode cX8_is 8 = .ok (.iconst 0, 1) := by decide +kernel
theorem dX8_is_9 : decode cX8_is 9 = .ok (.ireturn, 1) := by decide +kernel
theorem dX8_is_10 : decode cX8_is 10 = .ok (.aload_n 0, 1) := by decide +kernel
theorem dX8_is_11 : decode cX8_is 11 = .ok (.dup, 1) := by decide +kernel
theorem dX8_is_12 : decode cX8_is 12 = .ok (.getfield 142, 3) := by decide +kernel
theorem dX8_is_15 : decode cX8_is 15 = .ok (.iconst 1, 1) := by decide +kernel
theorem dX8_is_16 : decode cX8_is 16 = .ok (.iadd, 1) := by decide +kernel
theorem dX8_is_17 : decode cX8_is 17 = .ok (.putfield 142, 3) := by decide +kernel
theorem dX8_is_20 : decode cX8_is 20 = .ok (.iconst 1, 1) := by decide +kernel
theorem dX8_is_21 : decode cX8_is 21 = .ok (.ireturn, 1) := by decide +kernel
theorem dX8_codes_0 : decode cX8_codes 0 = .ok (.aload_n 0, 1) := by decide +kernel
theorem dX8_codes_1 : decode cX8_codes 1 = .ok (.getfield 42, 3) := by decide +kernel
theorem dX8_codes_4 : decode cX8_codes 4 = .ok (.aload_n 0, 1) := by decide +kernel
theorem dX8_codes_5 : decode cX8_codes 5 = .ok (.dup, 1) := by decide +kernel
theorem dX8_codes_6 : decode cX8_codes 6 = .ok (.getfield 149, 3) := by decide +kernel
theorem dX8_codes_9 : decode cX8_codes 9 = .ok (.dup_x1, 1) := by decide +kernel
theorem dX8_codes_10 : decode cX8_codes 10 = .ok (.iconst 1, 1) := by decide +kernel
theorem dX8_codes_11 : decode cX8_codes 11 = .ok (.iadd, 1) := by decide +kernel
theorem dX8_codes_12 : decode cX8_codes 12 = .ok (.putfield 149, 3) := by decide +kernel
theorem dX8_codes_15 : decode cX8_codes 15 = .ok (.iload_n 1, 1) := by decide +kernel
theorem dX8_codes_16 : decode cX8_codes 16 = .ok (.iastore, 1) := by decide +kernel
theorem dX8_codes_17 : decode cX8_codes 17 = .ok (.iconst 1, 1) := by decide +kernel
theorem dX8_codes_18 : decode cX8_codes 18 = .ok (.ireturn, 1) := by decide +kernel
theorem dX8_isDigit_0 : decode cX8_isDigit 0 = .ok (.aload_n 0, 1) := by decide +kernel
theorem dX8_isDigit_1 : decode cX8_isDigit 1 = .ok (.invokevirtual 145, 3) := by decide +kernel
theorem dX8_isDigit_4 : decode cX8_isDigit 4 = .ok (.bipush 48, 2) := by decide +kernel
theorem dX8_isDigit_6 : decode cX8_isDigit 6 = .ok (.if_icmp .lt 16, 3) := by decide +kernel
theorem dX8_isDigit_9 : decode cX8_isDigit 9 = .ok (.aload_n 0, 1) := by decide +kernel
theorem dX8_isDigit_10 : decode cX8_isDigit 10 = .ok (.invokevirtual 145, 3) := by decide +kernel
theorem dX8_isDigit_13 : decode cX8_isDigit 13 = .ok (.bipush 57, 2) := by decide +kernel
theorem dX8_isDigit_15 : decode cX8_isDigit 15 = .ok (.if_icmp .gt 7, 3) := by decide +kernel
theorem dX8_isDigit_18 : decode cX8_isDigit 18 = .ok (.iconst 1, 1) := by decide +kernel
theorem dX8_isDigit_19 : decode cX8_isDigit 19 = .ok (.goto 4, 3) := by decide +kernel
theorem dX8_isDigit_22 : decode cX8_isDigit 22 = .ok (.iconst 0, 1) := by decide +kernel
theorem dX8_isDigit_23 : decode cX8_isDigit 23 = .ok (.ireturn, 1) := by decide +kernel
theorem dX8_nameOf_0 : decode cX8_nameOf 0 = .ok (.iload_n 0, 1) := by decide +kernel
theorem dX8_nameOf_1 : decode cX8_nameOf 1 = .ok (.tableswitch 107 100 119 #[105, 107, 103, 107, 107, 107, 107, 95, 107, 107, 107, 97, 107, 107, 107, 107, 107, 107, 101, 99], 95) := by decide +kernel
theorem dX8_nameOf_96 : decode cX8_nameOf 96 = .ok (.iconst 0, 1) := by decide +kernel
theorem dX8_nameOf_97 : decode cX8_nameOf 97 = .ok (.ireturn, 1) := by decide +kernel
theorem dX8_nameOf_98 : decode cX8_nameOf 98 = .ok (.iconst 1, 1) := by decide +kernel
theorem dX8_nameOf_99 : decode cX8_nameOf 99 = .ok (.ireturn, 1) := by decide +kernel
theorem dX8_nameOf_100 : decode cX8_nameOf 100 = .ok (.iconst 2, 1) := by decide +kernel
theorem dX8_nameOf_101 : decode cX8_nameOf 101 = .ok (.ireturn, 1) := by decide +kernel
theorem dX8_nameOf_102 : decode cX8_nameOf 102 = .ok (.iconst 3, 1) := by decide +kernel
theorem dX8_nameOf_103 : decode cX8_nameOf 103 = .ok (.ireturn, 1) := by decide +kernel
theorem dX8_nameOf_104 : decode cX8_nameOf 104 = .ok (.iconst 4, 1) := by decide +kernel
theorem dX8_nameOf_105 : decode cX8_nameOf 105 = .ok (.ireturn, 1) := by decide +kernel
theorem dX8_nameOf_106 : decode cX8_nameOf 106 = .ok (.iconst 5, 1) := by decide +kernel
theorem dX8_nameOf_107 : decode cX8_nameOf 107 = .ok (.ireturn, 1) := by decide +kernel
theorem dX8_nameOf_108 : decode cX8_nameOf 108 = .ok (.iconst (-1), 1) := by decide +kernel
theorem dX8_nameOf_109 : decode cX8_nameOf 109 = .ok (.ireturn, 1) := by decide +kernel
theorem dX8_isP_0 : decode cX8_isP 0 = .ok (.aload_n 0, 1) := by decide +kernel
theorem dX8_isP_1 : decode cX8_isP 1 = .ok (.invokevirtual 169, 3) := by decide +kernel
theorem dX8_isP_4 : decode cX8_isP 4 = .ok (.ifCond .ne 5, 3) := by decide +kernel
theorem dX8_isP_7 : decode cX8_isP 7 = .ok (.iconst 0, 1) := by decide +kernel
theorem dX8_isP_8 : decode cX8_isP 8 = .ok (.ireturn, 1) := by decide +kernel
theorem dX8_isP_9 : decode cX8_isP 9 = .ok (.aload_n 0, 1) := by decide +kernel
theorem dX8_isP_10 : decode cX8_isP 10 = .ok (.invokevirtual 145, 3) := by decide +kernel
theorem dX8_isP_13 : decode cX8_isP 13 = .ok (.bipush 42, 2) := by decide +kernel
theorem dX8_isP_15 : decode cX8_isP 15 = .ok (.if_icmp .ne 8, 3) := by decide +kernel
theorem dX8_isP_18 : decode cX8_isP 18 = .ok (.bipush 13, 2) := by decide +kernel
theorem dX8_isP_20 : decode cX8_isP 20 = .ok (.goto 32, 3) := by decide +kernel
theorem dX8_isP_23 : decode cX8_isP 23 = .ok (.aload_n 0, 1) := by decide +kernel
theorem dX8_isP_24 : decode cX8_isP 24 = .ok (.invokevirtual 145, 3) := by decide +kernel
theorem dX8_isP_27 : decode cX8_isP 27 = .ok (.bipush 47, 2) := by decide +kernel
theorem dX8_isP_29 : decode cX8_isP 29 = .ok (.if_icmp .ne 8, 3) := by decide +kernel
theorem dX8_isP_32 : decode cX8_isP 32 = .ok (.bipush 14, 2) := by decide +kernel
theorem dX8_isP_34 : decode cX8_isP 34 = .ok (.goto 18, 3) := by decide +kernel
theorem dX8_isP_37 : decode cX8_isP 37 = .ok (.aload_n 0, 1) := by decide +kernel
theorem dX8_isP_38 : decode cX8_isP 38 = .ok (.invokevirtual 145, 3) := by decide +kernel
theorem dX8_isP_41 : decode cX8_isP 41 = .ok (.bipush 37, 2) := by decide +kernel
theorem dX8_isP_43 : decode cX8_isP 43 = .ok (.if_icmp .ne 8, 3) := by decide +kernel
theorem dX8_isP_46 : decode cX8_isP 46 = .ok (.bipush 15, 2) := by decide +kernel
theorem dX8_isP_48 : decode cX8_isP 48 = .ok (.goto 4, 3) := by decide +kernel
theorem dX8_isP_51 : decode cX8_isP 51 = .ok (.iconst (-1), 1) := by decide +kernel
theorem dX8_isP_52 : decode cX8_isP 52 = .ok (.istore_n 1, 1) := by decide +kernel
theorem dX8_isP_53 : decode cX8_isP 53 = .ok (.iload_n 1, 1) := by decide +kernel
theorem dX8_isP_54 : decode cX8_isP 54 = .ok (.ifCond .ge 5, 3) := by decide +kernel
theorem dX8_isP_57 : decode cX8_isP 57 = .ok (.iconst 1, 1) := by decide +kernel
theorem dX8_isP_58 : decode cX8_isP 58 = .ok (.ireturn, 1) := by decide +kernel
theorem dX8_isP_59 : decode cX8_isP 59 = .ok (.aload_n 0, 1) := by decide +kernel
theorem dX8_isP_60 : decode cX8_isP 60 = .ok (.dup, 1) := by decide +kernel
theorem dX8_isP_61 : decode cX8_isP 61 = .ok (.getfield 142, 3) := by decide +kernel
theorem dX8_isP_64 : decode cX8_isP 64 = .ok (.iconst 1, 1) := by decide +kernel
theorem dX8_isP_65 : decode cX8_isP 65 = .ok (.iadd, 1) := by decide +kernel
theorem dX8_isP_66 : decode cX8_isP 66 = .ok (.putfield 142, 3) := by decide +kernel
theorem dX8_isP_69 : decode cX8_isP 69 = .ok (.aload_n 0, 1) := by decide +kernel
theorem dX8_isP_70 : decode cX8_isP 70 = .ok (.invokevirtual 169, 3) := by decide +kernel
theorem dX8_isP_73 : decode cX8_isP 73 = .ok (.ifCond .ne 5, 3) := by decide +kernel
theorem dX8_isP_76 : decode cX8_isP 76 = .ok (.iconst 0, 1) := by decide +kernel
theorem dX8_isP_77 : decode cX8_isP 77 = .ok (.ireturn, 1) := by decide +kernel
theorem dX8_isP_78 : decode cX8_isP 78 = .ok (.aload_n 0, 1) := by decide +kernel
theorem dX8_isP_79 : decode cX8_isP 79 = .ok (.iload_n 1, 1) := by decide +kernel
theorem dX8_isP_80 : decode cX8_isP 80 = .ok (.invokevirtual 156, 3) := by decide +kernel
theorem dX8_isP_83 : decode cX8_isP 83 = .ok (.pop, 1) := by decide +kernel
theorem dX8_isP_84 : decode cX8_isP 84 = .ok (.goto (-75), 3) := by decide +kernel
theorem dX8_isS_0 : decode cX8_isS 0 = .ok (.aload_n 0, 1) := by decide +kernel
theorem dX8_isS_1 : decode cX8_isS 1 = .ok (.invokevirtual 175, 3) := by decide +kernel
theorem dX8_isS_4 : decode cX8_isS 4 = .ok (.ifCond .ne 5, 3) := by decide +kernel
theorem dX8_isS_7 : decode cX8_isS 7 = .ok (.iconst 0, 1) := by decide +kernel
theorem dX8_isS_8 : decode cX8_isS 8 = .ok (.ireturn, 1) := by decide +kernel
theorem dX8_isS_9 : decode cX8_isS 9 = .ok (.aload_n 0, 1) := by decide +kernel
theorem dX8_isS_10 : decode cX8_isS 10 = .ok (.invokevirtual 145, 3) := by decide +kernel
theorem dX8_isS_13 : decode cX8_isS 13 = .ok (.bipush 43, 2) := by decide +kernel
theorem dX8_isS_15 : decode cX8_isS 15 = .ok (.if_icmp .ne 8, 3) := by decide +kernel
theorem dX8_isS_18 : decode cX8_isS 18 = .ok (.bipush 11, 2) := by decide +kernel
theorem dX8_isS_20 : decode cX8_isS 20 = .ok (.goto 18, 3) := by decide +kernel
theorem dX8_isS_23 : decode cX8_isS 23 = .ok (.aload_n 0, 1) := by decide +kernel
theorem dX8_isS_24 : decode cX8_isS 24 = .ok (.invokevirtual 145, 3) := by decide +kernel
theorem dX8_isS_27 : decode cX8_isS 27 = .ok (.bipush 45, 2) := by decide +kernel
theorem dX8_isS_29 : decode cX8_isS 29 = .ok (.if_icmp .ne 8, 3) := by decide +kernel
theorem dX8_isS_32 : decode cX8_isS 32 = .ok (.bipush 12, 2) := by decide +kernel
theorem dX8_isS_34 : decode cX8_isS 34 = .ok (.goto 4, 3) := by decide +kernel
theorem dX8_isS_37 : decode cX8_isS 37 = .ok (.iconst (-1), 1) := by decide +kernel
theorem dX8_isS_38 : decode cX8_isS 38 = .ok (.istore_n 1, 1) := by decide +kernel
theorem dX8_isS_39 : decode cX8_isS 39 = .ok (.iload_n 1, 1) := by decide +kernel
theorem dX8_isS_40 : decode cX8_isS 40 = .ok (.ifCond .ge 5, 3) := by decide +kernel
theorem dX8_isS_43 : decode cX8_isS 43 = .ok (.iconst 1, 1) := by decide +kernel
theorem dX8_isS_44 : decode cX8_isS 44 = .ok (.ireturn, 1) := by decide +kernel
theorem dX8_isS_45 : decode cX8_isS 45 = .ok (.aload_n 0, 1) := by decide +kernel
theorem dX8_isS_46 : decode cX8_isS 46 = .ok (.dup, 1) := by decide +kernel
theorem dX8_isS_47 : decode cX8_isS 47 = .ok (.getfield 142, 3) := by decide +kernel
theorem dX8_isS_50 : decode cX8_isS 50 = .ok (.iconst 1, 1) := by decide +kernel
theorem dX8_isS_51 : decode cX8_isS 51 = .ok (.iadd, 1) := by decide +kernel
theorem dX8_isS_52 : decode cX8_isS 52 = .ok (.putfield 142, 3) := by decide +kernel
theorem dX8_isS_55 : decode cX8_isS 55 = .ok (.aload_n 0, 1) := by decide +kernel
theorem dX8_isS_56 : decode cX8_isS 56 = .ok (.invokevirtual 175, 3) := by decide +kernel
theorem dX8_isS_59 : decode cX8_isS 59 = .ok (.ifCond .ne 5, 3) := by decide +kernel
theorem dX8_isS_62 : decode cX8_isS 62 = .ok (.iconst 0, 1) := by decide +kernel
theorem dX8_isS_63 : decode cX8_isS 63 = .ok (.ireturn, 1) := by decide +kernel
theorem dX8_isS_64 : decode cX8_isS 64 = .ok (.aload_n 0, 1) := by decide +kernel
theorem dX8_isS_65 : decode cX8_isS 65 = .ok (.iload_n 1, 1) := by decide +kernel
theorem dX8_isS_66 : decode cX8_isS 66 = .ok (.invokevirtual 156, 3) := by decide +kernel
theorem dX8_isS_69 : decode cX8_isS 69 = .ok (.pop, 1) := by decide +kernel
theorem dX8_isS_70 : decode cX8_isS 70 = .ok (.goto (-61), 3) := by decide +kernel
theorem dX8_isB_0 : decode cX8_isB 0 = .ok (.aload_n 0, 1) := by decide +kernel
theorem dX8_isB_1 : decode cX8_isB 1 = .ok (.invokevirtual 178, 3) := by decide +kernel
theorem dX8_isB_4 : decode cX8_isB 4 = .ok (.ifCond .ne 5, 3) := by decide +kernel
theorem dX8_isB_7 : decode cX8_isB 7 = .ok (.iconst 0, 1) := by decide +kernel
theorem dX8_isB_8 : decode cX8_isB 8 = .ok (.ireturn, 1) := by decide +kernel
theorem dX8_isB_9 : decode cX8_isB 9 = .ok (.aload_n 0, 1) := by decide +kernel
theorem dX8_isB_10 : decode cX8_isB 10 = .ok (.invokevirtual 145, 3) := by decide +kernel
theorem dX8_isB_13 : decode cX8_isB 13 = .ok (.bipush 60, 2) := by decide +kernel
theorem dX8_isB_15 : decode cX8_isB 15 = .ok (.if_icmp .ne 8, 3) := by decide +kernel
theorem dX8_isB_18 : decode cX8_isB 18 = .ok (.bipush 8, 2) := by decide +kernel
theorem dX8_isB_20 : decode cX8_isB 20 = .ok (.goto 32, 3) := by decide +kernel
theorem dX8_isB_23 : decode cX8_isB 23 = .ok (.aload_n 0, 1) := by decide +kernel
theorem dX8_isB_24 : decode cX8_isB 24 = .ok (.invokevirtual 145, 3) := by decide +kernel
theorem dX8_isB_27 : decode cX8_isB 27 = .ok (.bipush 61, 2) := by decide +kernel
theorem dX8_isB_29 : decode cX8_isB 29 = .ok (.if_icmp .ne 8, 3) := by decide +kernel
theorem dX8_isB_32 : decode cX8_isB 32 = .ok (.bipush 9, 2) := by decide +kernel
theorem dX8_isB_34 : decode cX8_isB 34 = .ok (.goto 18, 3) := by decide +kernel
theorem dX8_isB_37 : decode cX8_isB 37 = .ok (.aload_n 0, 1) := by decide +kernel
theorem dX8_isB_38 : decode cX8_isB 38 = .ok (.invokevirtual 145, 3) := by decide +kernel
theorem dX8_isB_41 : decode cX8_isB 41 = .ok (.bipush 62, 2) := by decide +kernel
theorem dX8_isB_43 : decode cX8_isB 43 = .ok (.if_icmp .ne 8, 3) := by decide +kernel
theorem dX8_isB_46 : decode cX8_isB 46 = .ok (.bipush 10, 2) := by decide +kernel
theorem dX8_isB_48 : decode cX8_isB 48 = .ok (.goto 4, 3) := by decide +kernel
theorem dX8_isB_51 : decode cX8_isB 51 = .ok (.iconst (-1), 1) := by decide +kernel
theorem dX8_isB_52 : decode cX8_isB 52 = .ok (.istore_n 1, 1) := by decide +kernel
theorem dX8_isB_53 : decode cX8_isB 53 = .ok (.iload_n 1, 1) := by decide +kernel
theorem dX8_isB_54 : decode cX8_isB 54 = .ok (.ifCond .ge 5, 3) := by decide +kernel
theorem dX8_isB_57 : decode cX8_isB 57 = .ok (.iconst 1, 1) := by decide +kernel
theorem dX8_isB_58 : decode cX8_isB 58 = .ok (.ireturn, 1) := by decide +kernel
theorem dX8_isB_59 : decode cX8_isB 59 = .ok (.aload_n 0, 1) := by decide +kernel
theorem dX8_isB_60 : decode cX8_isB 60 = .ok (.dup, 1) := by decide +kernel
theorem dX8_isB_61 : decode cX8_isB 61 = .ok (.getfield 142, 3) := by decide +kernel
theorem dX8_isB_64 : decode cX8_isB 64 = .ok (.iconst 1, 1) := by decide +kernel
theorem dX8_isB_65 : decode cX8_isB 65 = .ok (.iadd, 1) := by decide +kernel
theorem dX8_isB_66 : decode cX8_isB 66 = .ok (.putfield 142, 3) := by decide +kernel
theorem dX8_isB_69 : decode cX8_isB 69 = .ok (.aload_n 0, 1) := by decide +kernel
theorem dX8_isB_70 : decode cX8_isB 70 = .ok (.invokevirtual 178, 3) := by decide +kernel
theorem dX8_isB_73 : decode cX8_isB 73 = .ok (.ifCond .eq 15, 3) := by decide +kernel
theorem dX8_isB_76 : decode cX8_isB 76 = .ok (.aload_n 0, 1) := by decide +kernel
theorem dX8_isB_77 : decode cX8_isB 77 = .ok (.iload_n 1, 1) := by decide +kernel
theorem dX8_isB_78 : decode cX8_isB 78 = .ok (.invokevirtual 156, 3) := by decide +kernel
theorem dX8_isB_81 : decode cX8_isB 81 = .ok (.ifCond .eq 7, 3) := by decide +kernel
theorem dX8_isB_84 : decode cX8_isB 84 = .ok (.iconst 1, 1) := by decide +kernel
theorem dX8_isB_85 : decode cX8_isB 85 = .ok (.goto 4, 3) := by decide +kernel
theorem dX8_isB_88 : decode cX8_isB 88 = .ok (.iconst 0, 1) := by decide +kernel
theorem dX8_isB_89 : decode cX8_isB 89 = .ok (.ireturn, 1) := by decide +kernel
theorem dX8_isA_0 : decode cX8_isA 0 = .ok (.aload_n 0, 1) := by decide +kernel
theorem dX8_isA_1 : decode cX8_isA 1 = .ok (.invokevirtual 181, 3) := by decide +kernel
theorem dX8_isA_4 : decode cX8_isA 4 = .ok (.ifCond .ne 5, 3) := by decide +kernel
theorem dX8_isA_7 : decode cX8_isA 7 = .ok (.iconst 0, 1) := by decide +kernel
theorem dX8_isA_8 : decode cX8_isA 8 = .ok (.ireturn, 1) := by decide +kernel
theorem dX8_isA_9 : decode cX8_isA 9 = .ok (.aload_n 0, 1) := by decide +kernel
theorem dX8_isA_10 : decode cX8_isA 10 = .ok (.bipush 38, 2) := by decide +kernel
theorem dX8_isA_12 : decode cX8_isA 12 = .ok (.invokevirtual 166, 3) := by decide +kernel
theorem dX8_isA_15 : decode cX8_isA 15 = .ok (.ifCond .eq 22, 3) := by decide +kernel
theorem dX8_isA_18 : decode cX8_isA 18 = .ok (.aload_n 0, 1) := by decide +kernel
theorem dX8_isA_19 : decode cX8_isA 19 = .ok (.invokevirtual 181, 3) := by decide +kernel
theorem dX8_isA_22 : decode cX8_isA 22 = .ok (.ifCond .ne 5, 3) := by decide +kernel
theorem dX8_isA_25 : decode cX8_isA 25 = .ok (.iconst 0, 1) := by decide +kernel
theorem dX8_isA_26 : decode cX8_isA 26 = .ok (.ireturn, 1) := by decide +kernel
theorem dX8_isA_27 : decode cX8_isA 27 = .ok (.aload_n 0, 1) := by decide +kernel
theorem dX8_isA_28 : decode cX8_isA 28 = .ok (.bipush 7, 2) := by decide +kernel
theorem dX8_isA_30 : decode cX8_isA 30 = .ok (.invokevirtual 156, 3) := by decide +kernel
theorem dX8_isA_33 : decode cX8_isA 33 = .ok (.pop, 1) := by decide +kernel
theorem dX8_isA_34 : decode cX8_isA 34 = .ok (.goto (-25), 3) := by decide +kernel
theorem dX8_isA_37 : decode cX8_isA 37 = .ok (.iconst 1, 1) := by decide +kernel
theorem dX8_isA_38 : decode cX8_isA 38 = .ok (.ireturn, 1) := by decide +kernel
theorem dX8_isE_0 : decode cX8_isE 0 = .ok (.aload_n 0, 1) := by decide +kernel
theorem dX8_isE_1 : decode cX8_isE 1 = .ok (.invokevirtual 184, 3) := by decide +kernel
theorem dX8_isE_4 : decode cX8_isE 4 = .ok (.ifCond .ne 5, 3) := by decide +kernel
theorem dX8_isE_7 : decode cX8_isE 7 = .ok (.iconst 0, 1) := by decide +kernel
theorem dX8_isE_8 : decode cX8_isE 8 = .ok (.ireturn, 1) := by decide +kernel
theorem dX8_isE_9 : decode cX8_isE 9 = .ok (.aload_n 0, 1) := by decide +kernel
theorem dX8_isE_10 : decode cX8_isE 10 = .ok (.bipush 124, 2) := by decide +kernel
theorem dX8_isE_12 : decode cX8_isE 12 = .ok (.invokevirtual 166, 3) := by decide +kernel
theorem dX8_isE_15 : decode cX8_isE 15 = .ok (.ifCond .eq 22, 3) := by decide +kernel
theorem dX8_isE_18 : decode cX8_isE 18 = .ok (.aload_n 0, 1) := by decide +kernel
theorem dX8_isE_19 : decode cX8_isE 19 = .ok (.invokevirtual 184, 3) := by decide +kernel
theorem dX8_isE_22 : decode cX8_isE 22 = .ok (.ifCond .ne 5, 3) := by decide +kernel
theorem dX8_isE_25 : decode cX8_isE 25 = .ok (.iconst 0, 1) := by decide +kernel
theorem dX8_isE_26 : decode cX8_isE 26 = .ok (.ireturn, 1) := by decide +kernel
theorem dX8_isE_27 : decode cX8_isE 27 = .ok (.aload_n 0, 1) := by decide +kernel
theorem dX8_isE_28 : decode cX8_isE 28 = .ok (.bipush 6, 2) := by decide +kernel
theorem dX8_isE_30 : decode cX8_isE 30 = .ok (.invokevirtual 156, 3) := by decide +kernel
theorem dX8_isE_33 : decode cX8_isE 33 = .ok (.pop, 1) := by decide +kernel
theorem dX8_isE_34 : decode cX8_isE 34 = .ok (.goto (-25), 3) := by decide +kernel
theorem dX8_isE_37 : decode cX8_isE 37 = .ok (.iconst 1, 1) := by decide +kernel
theorem dX8_isE_38 : decode cX8_isE 38 = .ok (.ireturn, 1) := by decide +kernel
theorem dX8_isO_0 : decode cX8_isO 0 = .ok (.aload_n 0, 1) := by decide +kernel
theorem dX8_isO_1 : decode cX8_isO 1 = .ok (.invokevirtual 152, 3) := by decide +kernel
theorem dX8_isO_4 : decode cX8_isO 4 = .ok (.ifCond .eq 62, 3) := by decide +kernel
theorem dX8_isO_7 : decode cX8_isO 7 = .ok (.iconst 0, 1) := by decide +kernel
theorem dX8_isO_8 : decode cX8_isO 8 = .ok (.istore_n 1, 1) := by decide +kernel
theorem dX8_isO_9 : decode cX8_isO 9 = .ok (.iconst 0, 1) := by decide +kernel
theorem dX8_isO_10 : decode cX8_isO 10 = .ok (.istore_n 2, 1) := by decide +kernel
theorem dX8_isO_11 : decode cX8_isO 11 = .ok (.iload_n 2, 1) := by decide +kernel
theorem dX8_isO_12 : decode cX8_isO 12 = .ok (.iconst 4, 1) := by decide +kernel
theorem dX8_isO_13 : decode cX8_isO 13 = .ok (.if_icmp .ge 44, 3) := by decide +kernel
theorem dX8_isO_16 : decode cX8_isO 16 = .ok (.aload_n 0, 1) := by decide +kernel
theorem dX8_isO_17 : decode cX8_isO 17 = .ok (.invokevirtual 152, 3) := by decide +kernel
theorem dX8_isO_20 : decode cX8_isO 20 = .ok (.ifCond .eq 37, 3) := by decide +kernel
theorem dX8_isO_23 : decode cX8_isO 23 = .ok (.bipush 10, 2) := by decide +kernel
theorem dX8_isO_25 : decode cX8_isO 25 = .ok (.iload_n 1, 1) := by decide +kernel
theorem dX8_isO_26 : decode cX8_isO 26 = .ok (.imul, 1) := by decide +kernel
theorem dX8_isO_27 : decode cX8_isO 27 = .ok (.aload_n 0, 1) := by decide +kernel
theorem dX8_isO_28 : decode cX8_isO 28 = .ok (.getfield 18, 3) := by decide +kernel
theorem dX8_isO_31 : decode cX8_isO 31 = .ok (.aload_n 0, 1) := by decide +kernel
theorem dX8_isO_32 : decode cX8_isO 32 = .ok (.getfield 142, 3) := by decide +kernel
theorem dX8_isO_35 : decode cX8_isO 35 = .ok (.iaload, 1) := by decide +kernel
theorem dX8_isO_36 : decode cX8_isO 36 = .ok (.iadd, 1) := by decide +kernel
theorem dX8_isO_37 : decode cX8_isO 37 = .ok (.bipush 48, 2) := by decide +kernel
theorem dX8_isO_39 : decode cX8_isO 39 = .ok (.isub, 1) := by decide +kernel
theorem dX8_isO_40 : decode cX8_isO 40 = .ok (.istore_n 1, 1) := by decide +kernel
theorem dX8_isO_41 : decode cX8_isO 41 = .ok (.aload_n 0, 1) := by decide +kernel
theorem dX8_isO_42 : decode cX8_isO 42 = .ok (.dup, 1) := by decide +kernel
theorem dX8_isO_43 : decode cX8_isO 43 = .ok (.getfield 142, 3) := by decide +kernel
theorem dX8_isO_46 : decode cX8_isO 46 = .ok (.iconst 1, 1) := by decide +kernel
theorem dX8_isO_47 : decode cX8_isO 47 = .ok (.iadd, 1) := by decide +kernel
theorem dX8_isO_48 : decode cX8_isO 48 = .ok (.putfield 142, 3) := by decide +kernel
theorem dX8_isO_51 : decode cX8_isO 51 = .ok (.iinc 2 1, 3) := by decide +kernel
theorem dX8_isO_54 : decode cX8_isO 54 = .ok (.goto (-43), 3) := by decide +kernel
theorem dX8_isO_57 : decode cX8_isO 57 = .ok (.aload_n 0, 1) := by decide +kernel
theorem dX8_isO_58 : decode cX8_isO 58 = .ok (.bipush 18, 2) := by decide +kernel
theorem dX8_isO_60 : decode cX8_isO 60 = .ok (.iload_n 1, 1) := by decide +kernel
theorem dX8_isO_61 : decode cX8_isO 61 = .ok (.iadd, 1) := by decide +kernel
theorem dX8_isO_62 : decode cX8_isO 62 = .ok (.invokevirtual 156, 3) := by decide +kernel
theorem dX8_isO_65 : decode cX8_isO 65 = .ok (.ireturn, 1) := by decide +kernel
theorem dX8_isO_66 : decode cX8_isO 66 = .ok (.aload_n 0, 1) := by decide +kernel
theorem dX8_isO_67 : decode cX8_isO 67 = .ok (.invokevirtual 145, 3) := by decide +kernel
theorem dX8_isO_70 : decode cX8_isO 70 = .ok (.invokestatic 159, 3) := by decide +kernel
theorem dX8_isO_73 : decode cX8_isO 73 = .ok (.istore_n 1, 1) := by decide +kernel
theorem dX8_isO_74 : decode cX8_isO 74 = .ok (.iload_n 1, 1) := by decide +kernel
theorem dX8_isO_75 : decode cX8_isO 75 = .ok (.ifCond .lt 19, 3) := by decide +kernel
theorem dX8_isO_78 : decode cX8_isO 78 = .ok (.aload_n 0, 1) := by decide +kernel
theorem dX8_isO_79 : decode cX8_isO 79 = .ok (.dup, 1) := by decide +kernel
theorem dX8_isO_80 : decode cX8_isO 80 = .ok (.getfield 142, 3) := by decide +kernel
theorem dX8_isO_83 : decode cX8_isO 83 = .ok (.iconst 1, 1) := by decide +kernel
theorem dX8_isO_84 : decode cX8_isO 84 = .ok (.iadd, 1) := by decide +kernel
theorem dX8_isO_85 : decode cX8_isO 85 = .ok (.putfield 142, 3) := by decide +kernel
theorem dX8_isO_88 : decode cX8_isO 88 = .ok (.aload_n 0, 1) := by decide +kernel
theorem dX8_isO_89 : decode cX8_isO 89 = .ok (.iload_n 1, 1) := by decide +kernel
theorem dX8_isO_90 : decode cX8_isO 90 = .ok (.invokevirtual 156, 3) := by decide +kernel
theorem dX8_isO_93 : decode cX8_isO 93 = .ok (.ireturn, 1) := by decide +kernel
theorem dX8_isO_94 : decode cX8_isO 94 = .ok (.aload_n 0, 1) := by decide +kernel
theorem dX8_isO_95 : decode cX8_isO 95 = .ok (.getfield 163, 3) := by decide +kernel
theorem dX8_isO_98 : decode cX8_isO 98 = .ok (.bipush 6, 2) := by decide +kernel
theorem dX8_isO_100 : decode cX8_isO 100 = .ok (.if_icmp .ne 5, 3) := by decide +kernel
theorem dX8_isO_103 : decode cX8_isO 103 = .ok (.iconst 0, 1) := by decide +kernel
theorem dX8_isO_104 : decode cX8_isO 104 = .ok (.ireturn, 1) := by decide +kernel
theorem dX8_isO_105 : decode cX8_isO 105 = .ok (.aload_n 0, 1) := by decide +kernel
theorem dX8_isO_106 : decode cX8_isO 106 = .ok (.dup, 1) := by decide +kernel
theorem dX8_isO_107 : decode cX8_isO 107 = .ok (.getfield 163, 3) := by decide +kernel
theorem dX8_isO_110 : decode cX8_isO 110 = .ok (.iconst 1, 1) := by decide +kernel
theorem dX8_isO_111 : decode cX8_isO 111 = .ok (.iadd, 1) := by decide +kernel
theorem dX8_isO_112 : decode cX8_isO 112 = .ok (.putfield 163, 3) := by decide +kernel
theorem dX8_isO_115 : decode cX8_isO 115 = .ok (.aload_n 0, 1) := by decide +kernel
theorem dX8_isO_116 : decode cX8_isO 116 = .ok (.bipush 33, 2) := by decide +kernel
theorem dX8_isO_118 : decode cX8_isO 118 = .ok (.invokevirtual 166, 3) := by decide +kernel
theorem dX8_isO_121 : decode cX8_isO 121 = .ok (.ifCond .eq 28, 3) := by decide +kernel
theorem dX8_isO_124 : decode cX8_isO 124 = .ok (.aload_n 0, 1) := by decide +kernel
theorem dX8_isO_125 : decode cX8_isO 125 = .ok (.invokevirtual 169, 3) := by decide +kernel
theorem dX8_isO_128 : decode cX8_isO 128 = .ok (.ifCond .eq 16, 3) := by decide +kernel
theorem dX8_isO_131 : decode cX8_isO 131 = .ok (.aload_n 0, 1) := by decide +kernel
theorem dX8_isO_132 : decode cX8_isO 132 = .ok (.bipush 16, 2) := by decide +kernel
theorem dX8_isO_134 : decode cX8_isO 134 = .ok (.invokevirtual 156, 3) := by decide +kernel
theorem dX8_isO_137 : decode cX8_isO 137 = .ok (.ifCond .eq 7, 3) := by decide +kernel
theorem dX8_isO_140 : decode cX8_isO 140 = .ok (.iconst 1, 1) := by decide +kernel
theorem dX8_isO_141 : decode cX8_isO 141 = .ok (.goto 4, 3) := by decide +kernel
theorem dX8_isO_144 : decode cX8_isO 144 = .ok (.iconst 0, 1) := by decide +kernel
theorem dX8_isO_145 : decode cX8_isO 145 = .ok (.istore_n 2, 1) := by decide +kernel
theorem dX8_isO_146 : decode cX8_isO 146 = .ok (.goto 68, 3) := by decide +kernel
theorem dX8_isO_149 : decode cX8_isO 149 = .ok (.aload_n 0, 1) := by decide +kernel
theorem dX8_isO_150 : decode cX8_isO 150 = .ok (.bipush 45, 2) := by decide +kernel
theorem dX8_isO_152 : decode cX8_isO 152 = .ok (.invokevirtual 166, 3) := by decide +kernel
theorem dX8_isO_155 : decode cX8_isO 155 = .ok (.ifCond .eq 28, 3) := by decide +kernel
theorem dX8_isO_158 : decode cX8_isO 158 = .ok (.aload_n 0, 1) := by decide +kernel
theorem dX8_isO_159 : decode cX8_isO 159 = .ok (.invokevirtual 169, 3) := by decide +kernel
theorem dX8_isO_162 : decode cX8_isO 162 = .ok (.ifCond .eq 16, 3) := by decide +kernel
theorem dX8_isO_165 : decode cX8_isO 165 = .ok (.aload_n 0, 1) := by decide +kernel
theorem dX8_isO_166 : decode cX8_isO 166 = .ok (.bipush 17, 2) := by decide +kernel
theorem dX8_isO_168 : decode cX8_isO 168 = .ok (.invokevirtual 156, 3) := by decide +kernel
theorem dX8_isO_171 : decode cX8_isO 171 = .ok (.ifCond .eq 7, 3) := by decide +kernel
theorem dX8_isO_174 : decode cX8_isO 174 = .ok (.iconst 1, 1) := by decide +kernel
theorem dX8_isO_175 : decode cX8_isO 175 = .ok (.goto 4, 3) := by decide +kernel
theorem dX8_isO_178 : decode cX8_isO 178 = .ok (.iconst 0, 1) := by decide +kernel
theorem dX8_isO_179 : decode cX8_isO 179 = .ok (.istore_n 2, 1) := by decide +kernel
theorem dX8_isO_180 : decode cX8_isO 180 = .ok (.goto 34, 3) := by decide +kernel
theorem dX8_isO_183 : decode cX8_isO 183 = .ok (.aload_n 0, 1) := by decide +kernel
theorem dX8_isO_184 : decode cX8_isO 184 = .ok (.bipush 40, 2) := by decide +kernel
theorem dX8_isO_186 : decode cX8_isO 186 = .ok (.invokevirtual 166, 3) := by decide +kernel
theorem dX8_isO_189 : decode cX8_isO 189 = .ok (.ifCond .eq 23, 3) := by decide +kernel
theorem dX8_isO_192 : decode cX8_isO 192 = .ok (.aload_n 0, 1) := by decide +kernel
theorem dX8_isO_193 : decode cX8_isO 193 = .ok (.invokevirtual 172, 3) := by decide +kernel
theorem dX8_isO_196 : decode cX8_isO 196 = .ok (.ifCond .eq 16, 3) := by decide +kernel
theorem dX8_isO_199 : decode cX8_isO 199 = .ok (.aload_n 0, 1) := by decide +kernel
theorem dX8_isO_200 : decode cX8_isO 200 = .ok (.bipush 41, 2) := by decide +kernel
theorem dX8_isO_202 : decode cX8_isO 202 = .ok (.invokevirtual 166, 3) := by decide +kernel
theorem dX8_isO_205 : decode cX8_isO 205 = .ok (.ifCond .eq 7, 3) := by decide +kernel
theorem dX8_isO_208 : decode cX8_isO 208 = .ok (.iconst 1, 1) := by decide +kernel
theorem dX8_isO_209 : decode cX8_isO 209 = .ok (.goto 4, 3) := by decide +kernel
theorem dX8_isO_212 : decode cX8_isO 212 = .ok (.iconst 0, 1) := by decide +kernel
theorem dX8_isO_213 : decode cX8_isO 213 = .ok (.istore_n 2, 1) := by decide +kernel
theorem dX8_isO_214 : decode cX8_isO 214 = .ok (.aload_n 0, 1) := by decide +kernel
theorem dX8_isO_215 : decode cX8_isO 215 = .ok (.dup, 1) := by decide +kernel
theorem dX8_isO_216 : decode cX8_isO 216 = .ok (.getfield 163, 3) := by decide +kernel
theorem dX8_isO_219 : decode cX8_isO 219 = .ok (.iconst 1, 1) := by decide +kernel
theorem dX8_isO_220 : decode cX8_isO 220 = .ok (.isub, 1) := by decide +kernel
theorem dX8_isO_221 : decode cX8_isO 221 = .ok (.putfield 163, 3) := by decide +kernel
theorem dX8_isO_224 : decode cX8_isO 224 = .ok (.iload_n 2, 1) := by decide +kernel
theorem dX8_isO_225 : decode cX8_isO 225 = .ok (.ireturn, 1) := by decide +kernel
theorem dX8_isLine_0 : decode cX8_isLine 0 = .ok (.aload_n 0, 1) := by decide +kernel
theorem dX8_isLine_1 : decode cX8_isLine 1 = .ok (.getfield 33, 3) := by decide +kernel
theorem dX8_isLine_4 : decode cX8_isLine 4 = .ok (.aload_n 0, 1) := by decide +kernel
theorem dX8_isLine_5 : decode cX8_isLine 5 = .ok (.getfield 187, 3) := by decide +kernel
theorem dX8_isLine_8 : decode cX8_isLine 8 = .ok (.aload_n 0, 1) := by decide +kernel
theorem dX8_isLine_9 : decode cX8_isLine 9 = .ok (.getfield 149, 3) := by decide +kernel
theorem dX8_isLine_12 : decode cX8_isLine 12 = .ok (.iastore, 1) := by decide +kernel
theorem dX8_isLine_13 : decode cX8_isLine 13 = .ok (.aload_n 0, 1) := by decide +kernel
theorem dX8_isLine_14 : decode cX8_isLine 14 = .ok (.invokevirtual 172, 3) := by decide +kernel
theorem dX8_isLine_17 : decode cX8_isLine 17 = .ok (.ifCond .ne 5, 3) := by decide +kernel
theorem dX8_isLine_20 : decode cX8_isLine 20 = .ok (.iconst 0, 1) := by decide +kernel
theorem dX8_isLine_21 : decode cX8_isLine 21 = .ok (.ireturn, 1) := by decide +kernel
theorem dX8_isLine_22 : decode cX8_isLine 22 = .ok (.aload_n 0, 1) := by decide +kernel
theorem dX8_isLine_23 : decode cX8_isLine 23 = .ok (.getfield 36, 3) := by decide +kernel
theorem dX8_isLine_26 : decode cX8_isLine 26 = .ok (.aload_n 0, 1) := by decide +kernel
theorem dX8_isLine_27 : decode cX8_isLine 27 = .ok (.getfield 187, 3) := by decide +kernel
theorem dX8_isLine_30 : decode cX8_isLine 30 = .ok (.aload_n 0, 1) := by decide +kernel
theorem dX8_isLine_31 : decode cX8_isLine 31 = .ok (.getfield 33, 3) := by decide +kernel
theorem dX8_isLine_34 : decode cX8_isLine 34 = .ok (.aload_n 0, 1) := by decide +kernel
theorem dX8_isLine_35 : decode cX8_isLine 35 = .ok (.getfield 187, 3) := by decide +kernel
theorem dX8_isLine_38 : decode cX8_isLine 38 = .ok (.iaload, 1) := by decide +kernel
theorem dX8_isLine_39 : decode cX8_isLine 39 = .ok (.iastore, 1) := by decide +kernel
theorem dX8_isLine_40 : decode cX8_isLine 40 = .ok (.aload_n 0, 1) := by decide +kernel
theorem dX8_isLine_41 : decode cX8_isLine 41 = .ok (.bipush 63, 2) := by decide +kernel
theorem dX8_isLine_43 : decode cX8_isLine 43 = .ok (.invokevirtual 166, 3) := by decide +kernel
theorem dX8_isLine_46 : decode cX8_isLine 46 = .ok (.ifCond .eq 25, 3) := by decide +kernel
theorem dX8_isLine_49 : decode cX8_isLine 49 = .ok (.aload_n 0, 1) := by decide +kernel
theorem dX8_isLine_50 : decode cX8_isLine 50 = .ok (.getfield 36, 3) := by decide +kernel
theorem dX8_isLine_53 : decode cX8_isLine 53 = .ok (.aload_n 0, 1) := by decide +kernel
theorem dX8_isLine_54 : decode cX8_isLine 54 = .ok (.getfield 187, 3) := by decide +kernel
theorem dX8_isLine_57 : decode cX8_isLine 57 = .ok (.aload_n 0, 1) := by decide +kernel
theorem dX8_isLine_58 : decode cX8_isLine 58 = .ok (.getfield 149, 3) := by decide +kernel
theorem dX8_isLine_61 : decode cX8_isLine 61 = .ok (.iastore, 1) := by decide +kernel
theorem dX8_isLine_62 : decode cX8_isLine 62 = .ok (.aload_n 0, 1) := by decide +kernel
theorem dX8_isLine_63 : decode cX8_isLine 63 = .ok (.invokevirtual 172, 3) := by decide +kernel
theorem dX8_isLine_66 : decode cX8_isLine 66 = .ok (.ifCond .ne 5, 3) := by decide +kernel
theorem dX8_isLine_69 : decode cX8_isLine 69 = .ok (.iconst 0, 1) := by decide +kernel
theorem dX8_isLine_70 : decode cX8_isLine 70 = .ok (.ireturn, 1) := by decide +kernel
theorem dX8_isLine_71 : decode cX8_isLine 71 = .ok (.aload_n 0, 1) := by decide +kernel
theorem dX8_isLine_72 : decode cX8_isLine 72 = .ok (.getfield 39, 3) := by decide +kernel
theorem dX8_isLine_75 : decode cX8_isLine 75 = .ok (.aload_n 0, 1) := by decide +kernel
theorem dX8_isLine_76 : decode cX8_isLine 76 = .ok (.dup, 1) := by decide +kernel
theorem dX8_isLine_77 : decode cX8_isLine 77 = .ok (.getfield 187, 3) := by decide +kernel
theorem dX8_isLine_80 : decode cX8_isLine 80 = .ok (.dup_x1, 1) := by decide +kernel
theorem dX8_isLine_81 : decode cX8_isLine 81 = .ok (.iconst 1, 1) := by decide +kernel
theorem dX8_isLine_82 : decode cX8_isLine 82 = .ok (.iadd, 1) := by decide +kernel
theorem dX8_isLine_83 : decode cX8_isLine 83 = .ok (.putfield 187, 3) := by decide +kernel
theorem dX8_isLine_86 : decode cX8_isLine 86 = .ok (.aload_n 0, 1) := by decide +kernel
theorem dX8_isLine_87 : decode cX8_isLine 87 = .ok (.getfield 149, 3) := by decide +kernel
theorem dX8_isLine_90 : decode cX8_isLine 90 = .ok (.iastore, 1) := by decide +kernel
theorem dX8_isLine_91 : decode cX8_isLine 91 = .ok (.iconst 1, 1) := by decide +kernel
theorem dX8_isLine_92 : decode cX8_isLine 92 = .ok (.ireturn, 1) := by decide +kernel
theorem dX8_law_0 : decode cX8_law 0 = .ok (.aload_n 0, 1) := by decide +kernel
theorem dX8_law_1 : decode cX8_law 1 = .ok (.iconst 0, 1) := by decide +kernel
theorem dX8_law_2 : decode cX8_law 2 = .ok (.putfield 142, 3) := by decide +kernel
theorem dX8_law_5 : decode cX8_law 5 = .ok (.aload_n 0, 1) := by decide +kernel
theorem dX8_law_6 : decode cX8_law 6 = .ok (.iconst 0, 1) := by decide +kernel
theorem dX8_law_7 : decode cX8_law 7 = .ok (.putfield 163, 3) := by decide +kernel
theorem dX8_law_10 : decode cX8_law 10 = .ok (.aload_n 0, 1) := by decide +kernel
theorem dX8_law_11 : decode cX8_law 11 = .ok (.iconst 0, 1) := by decide +kernel
theorem dX8_law_12 : decode cX8_law 12 = .ok (.putfield 149, 3) := by decide +kernel
theorem dX8_law_15 : decode cX8_law 15 = .ok (.aload_n 0, 1) := by decide +kernel
theorem dX8_law_16 : decode cX8_law 16 = .ok (.iconst 0, 1) := by decide +kernel
theorem dX8_law_17 : decode cX8_law 17 = .ok (.putfield 187, 3) := by decide +kernel
theorem dX8_law_20 : decode cX8_law 20 = .ok (.aload_n 0, 1) := by decide +kernel
theorem dX8_law_21 : decode cX8_law 21 = .ok (.invokevirtual 190, 3) := by decide +kernel
theorem dX8_law_24 : decode cX8_law 24 = .ok (.istore_n 1, 1) := by decide +kernel
theorem dX8_law_25 : decode cX8_law 25 = .ok (.iload_n 1, 1) := by decide +kernel
theorem dX8_law_26 : decode cX8_law 26 = .ok (.ifCond .eq 20, 3) := by decide +kernel
theorem dX8_law_29 : decode cX8_law 29 = .ok (.aload_n 0, 1) := by decide +kernel
theorem dX8_law_30 : decode cX8_law 30 = .ok (.bipush 59, 2) := by decide +kernel
theorem dX8_law_32 : decode cX8_law 32 = .ok (.invokevirtual 166, 3) := by decide +kernel
theorem dX8_law_35 : decode cX8_law 35 = .ok (.ifCond .eq 11, 3) := by decide +kernel
theorem dX8_law_38 : decode cX8_law 38 = .ok (.aload_n 0, 1) := by decide +kernel
theorem dX8_law_39 : decode cX8_law 39 = .ok (.invokevirtual 190, 3) := by decide +kernel
theorem dX8_law_42 : decode cX8_law 42 = .ok (.istore_n 1, 1) := by decide +kernel
theorem dX8_law_43 : decode cX8_law 43 = .ok (.goto (-18), 3) := by decide +kernel
theorem dX8_law_46 : decode cX8_law 46 = .ok (.iload_n 1, 1) := by decide +kernel
theorem dX8_law_47 : decode cX8_law 47 = .ok (.ifCond .eq 18, 3) := by decide +kernel
theorem dX8_law_50 : decode cX8_law 50 = .ok (.aload_n 0, 1) := by decide +kernel
theorem dX8_law_51 : decode cX8_law 51 = .ok (.getfield 142, 3) := by decide +kernel
theorem dX8_law_54 : decode cX8_law 54 = .ok (.aload_n 0, 1) := by decide +kernel
theorem dX8_law_55 : decode cX8_law 55 = .ok (.getfield 139, 3) := by decide +kernel
theorem dX8_law_58 : decode cX8_law 58 = .ok (.if_icmp .ne 7, 3) := by decide +kernel
theorem dX8_law_61 : decode cX8_law 61 = .ok (.iconst 1, 1) := by decide +kernel
theorem dX8_law_62 : decode cX8_law 62 = .ok (.goto 4, 3) := by decide +kernel
theorem dX8_law_65 : decode cX8_law 65 = .ok (.iconst 0, 1) := by decide +kernel
theorem dX8_law_66 : decode cX8_law 66 = .ok (.istore_n 2, 1) := by decide +kernel
theorem dX8_law_67 : decode cX8_law 67 = .ok (.aload_n 0, 1) := by decide +kernel
theorem dX8_law_68 : decode cX8_law 68 = .ok (.iconst 0, 1) := by decide +kernel
theorem dX8_law_69 : decode cX8_law 69 = .ok (.putfield 139, 3) := by decide +kernel
theorem dX8_law_72 : decode cX8_law 72 = .ok (.iload_n 2, 1) := by decide +kernel
theorem dX8_law_73 : decode cX8_law 73 = .ok (.ifCond .ne 11, 3) := by decide +kernel
theorem dX8_law_76 : decode cX8_law 76 = .ok (.bipush (-100), 2) := by decide +kernel
theorem dX8_law_78 : decode cX8_law 78 = .ok (.aload_n 0, 1) := by decide +kernel
theorem dX8_law_79 : decode cX8_law 79 = .ok (.getfield 142, 3) := by decide +kernel
theorem dX8_law_82 : decode cX8_law 82 = .ok (.isub, 1) := by decide +kernel
theorem dX8_law_83 : decode cX8_law 83 = .ok (.ireturn, 1) := by decide +kernel
theorem dX8_law_84 : decode cX8_law 84 = .ok (.aload_n 0, 1) := by decide +kernel
theorem dX8_law_85 : decode cX8_law 85 = .ok (.iconst 1, 1) := by decide +kernel
theorem dX8_law_86 : decode cX8_law 86 = .ok (.putfield 193, 3) := by decide +kernel
theorem dX8_law_89 : decode cX8_law 89 = .ok (.aload_n 0, 1) := by decide +kernel
theorem dX8_law_90 : decode cX8_law 90 = .ok (.aload_n 0, 1) := by decide +kernel
theorem dX8_law_91 : decode cX8_law 91 = .ok (.getfield 187, 3) := by decide +kernel
theorem dX8_law_94 : decode cX8_law 94 = .ok (.putfield 197, 3) := by decide +kernel
theorem dX8_law_97 : decode cX8_law 97 = .ok (.iconst 0, 1) := by decide +kernel
theorem dX8_law_98 : decode cX8_law 98 = .ok (.istore_n 3, 1) := by decide +kernel
theorem dX8_law_99 : decode cX8_law 99 = .ok (.iload_n 3, 1) := by decide +kernel
theorem dX8_law_100 : decode cX8_law 100 = .ok (.aload_n 0, 1) := by decide +kernel
theorem dX8_law_101 : decode cX8_law 101 = .ok (.getfield 197, 3) := by decide +kernel
theorem dX8_law_104 : decode cX8_law 104 = .ok (.if_icmp .ge 45, 3) := by decide +kernel
theorem dX8_law_107 : decode cX8_law 107 = .ok (.aload_n 0, 1) := by decide +kernel
theorem dX8_law_108 : decode cX8_law 108 = .ok (.getfield 21, 3) := by decide +kernel
theorem dX8_law_111 : decode cX8_law 111 = .ok (.iload_n 3, 1) := by decide +kernel
theorem dX8_law_112 : decode cX8_law 112 = .ok (.aload_n 0, 1) := by decide +kernel
theorem dX8_law_113 : decode cX8_law 113 = .ok (.getfield 33, 3) := by decide +kernel
theorem dX8_law_116 : decode cX8_law 116 = .ok (.iload_n 3, 1) := by decide +kernel
theorem dX8_law_117 : decode cX8_law 117 = .ok (.iaload, 1) := by decide +kernel
theorem dX8_law_118 : decode cX8_law 118 = .ok (.iastore, 1) := by decide +kernel
theorem dX8_law_119 : decode cX8_law 119 = .ok (.aload_n 0, 1) := by decide +kernel
theorem dX8_law_120 : decode cX8_law 120 = .ok (.getfield 24, 3) := by decide +kernel
theorem dX8_law_123 : decode cX8_law 123 = .ok (.iload_n 3, 1) := by decide +kernel
theorem dX8_law_124 : decode cX8_law 124 = .ok (.aload_n 0, 1) := by decide +kernel
theorem dX8_law_125 : decode cX8_law 125 = .ok (.getfield 36, 3) := by decide +kernel
theorem dX8_law_128 : decode cX8_law 128 = .ok (.iload_n 3, 1) := by decide +kernel
theorem dX8_law_129 : decode cX8_law 129 = .ok (.iaload, 1) := by decide +kernel
theorem dX8_law_130 : decode cX8_law 130 = .ok (.iastore, 1) := by decide +kernel
theorem dX8_law_131 : decode cX8_law 131 = .ok (.aload_n 0, 1) := by decide +kernel
theorem dX8_law_132 : decode cX8_law 132 = .ok (.getfield 27, 3) := by decide +kernel
theorem dX8_law_135 : decode cX8_law 135 = .ok (.iload_n 3, 1) := by decide +kernel
theorem dX8_law_136 : decode cX8_law 136 = .ok (.aload_n 0, 1) := by decide +kernel
theorem dX8_law_137 : decode cX8_law 137 = .ok (.getfield 39, 3) := by decide +kernel
theorem dX8_law_140 : decode cX8_law 140 = .ok (.iload_n 3, 1) := by decide +kernel
theorem dX8_law_141 : decode cX8_law 141 = .ok (.iaload, 1) := by decide +kernel
theorem dX8_law_142 : decode cX8_law 142 = .ok (.iastore, 1) := by decide +kernel
theorem dX8_law_143 : decode cX8_law 143 = .ok (.iinc 3 1, 3) := by decide +kernel
theorem dX8_law_146 : decode cX8_law 146 = .ok (.goto (-47), 3) := by decide +kernel
theorem dX8_law_149 : decode cX8_law 149 = .ok (.iconst 0, 1) := by decide +kernel
theorem dX8_law_150 : decode cX8_law 150 = .ok (.istore_n 3, 1) := by decide +kernel
theorem dX8_law_151 : decode cX8_law 151 = .ok (.iload_n 3, 1) := by decide +kernel
theorem dX8_law_152 : decode cX8_law 152 = .ok (.aload_n 0, 1) := by decide +kernel
theorem dX8_law_153 : decode cX8_law 153 = .ok (.getfield 149, 3) := by decide +kernel
theorem dX8_law_156 : decode cX8_law 156 = .ok (.if_icmp .ge 21, 3) := by decide +kernel
theorem dX8_law_159 : decode cX8_law 159 = .ok (.aload_n 0, 1) := by decide +kernel
theorem dX8_law_160 : decode cX8_law 160 = .ok (.getfield 30, 3) := by decide +kernel
theorem dX8_law_163 : decode cX8_law 163 = .ok (.iload_n 3, 1) := by decide +kernel
theorem dX8_law_164 : decode cX8_law 164 = .ok (.aload_n 0, 1) := by decide +kernel
theorem dX8_law_165 : decode cX8_law 165 = .ok (.getfield 42, 3) := by decide +kernel
theorem dX8_law_168 : decode cX8_law 168 = .ok (.iload_n 3, 1) := by decide +kernel
theorem dX8_law_169 : decode cX8_law 169 = .ok (.iaload, 1) := by decide +kernel
theorem dX8_law_170 : decode cX8_law 170 = .ok (.iastore, 1) := by decide +kernel
theorem dX8_law_171 : decode cX8_law 171 = .ok (.iinc 3 1, 3) := by decide +kernel
theorem dX8_law_174 : decode cX8_law 174 = .ok (.goto (-23), 3) := by decide +kernel
theorem dX8_law_177 : decode cX8_law 177 = .ok (.iconst 1, 1) := by decide +kernel
theorem dX8_law_178 : decode cX8_law 178 = .ok (.ireturn, 1) := by decide +kernel
theorem dX8_both_0 : decode cX8_both 0 = .ok (.iload_n 0, 1) := by decide +kernel
theorem dX8_both_1 : decode cX8_both 1 = .ok (.tableswitch 136 6 14 #[51, 65, 79, 90, 101, 112, 116, 120, 124], 51) := by decide +kernel
theorem dX8_both_52 : decode cX8_both 52 = .ok (.iload_n 1, 1) := by decide +kernel
theorem dX8_both_53 : decode cX8_both 53 = .ok (.ifCond .ne 7, 3) := by decide +kernel
theorem dX8_both_56 : decode cX8_both 56 = .ok (.iload_n 2, 1) := by decide +kernel
theorem dX8_both_57 : decode cX8_both 57 = .ok (.ifCond .eq 7, 3) := by decide +kernel
theorem dX8_both_60 : decode cX8_both 60 = .ok (.iconst 1, 1) := by decide +kernel
theorem dX8_both_61 : decode cX8_both 61 = .ok (.goto 4, 3) := by decide +kernel
theorem dX8_both_64 : decode cX8_both 64 = .ok (.iconst 0, 1) := by decide +kernel
theorem dX8_both_65 : decode cX8_both 65 = .ok (.ireturn, 1) := by decide +kernel
theorem dX8_both_66 : decode cX8_both 66 = .ok (.iload_n 1, 1) := by decide +kernel
theorem dX8_both_67 : decode cX8_both 67 = .ok (.ifCond .eq 11, 3) := by decide +kernel
theorem dX8_both_70 : decode cX8_both 70 = .ok (.iload_n 2, 1) := by decide +kernel
theorem dX8_both_71 : decode cX8_both 71 = .ok (.ifCond .eq 7, 3) := by decide +kernel
theorem dX8_both_74 : decode cX8_both 74 = .ok (.iconst 1, 1) := by decide +kernel
theorem dX8_both_75 : decode cX8_both 75 = .ok (.goto 4, 3) := by decide +kernel
theorem dX8_both_78 : decode cX8_both 78 = .ok (.iconst 0, 1) := by decide +kernel
theorem dX8_both_79 : decode cX8_both 79 = .ok (.ireturn, 1) := by decide +kernel
theorem dX8_both_80 : decode cX8_both 80 = .ok (.iload_n 1, 1) := by decide +kernel
theorem dX8_both_81 : decode cX8_both 81 = .ok (.iload_n 2, 1) := by decide +kernel
theorem dX8_both_82 : decode cX8_both 82 = .ok (.if_icmp .ge 7, 3) := by decide +kernel
theorem dX8_both_85 : decode cX8_both 85 = .ok (.iconst 1, 1) := by decide +kernel
theorem dX8_both_86 : decode cX8_both 86 = .ok (.goto 4, 3) := by decide +kernel
theorem dX8_both_89 : decode cX8_both 89 = .ok (.iconst 0, 1) := by decide +kernel
theorem dX8_both_90 : decode cX8_both 90 = .ok (.ireturn, 1) := by decide +kernel
theorem dX8_both_91 : decode cX8_both 91 = .ok (.iload_n 1, 1) := by decide +kernel
theorem dX8_both_92 : decode cX8_both 92 = .ok (.iload_n 2, 1) := by decide +kernel
theorem dX8_both_93 : decode cX8_both 93 = .ok (.if_icmp .ne 7, 3) := by decide +kernel
theorem dX8_both_96 : decode cX8_both 96 = .ok (.iconst 1, 1) := by decide +kernel
theorem dX8_both_97 : decode cX8_both 97 = .ok (.goto 4, 3) := by decide +kernel
theorem dX8_both_100 : decode cX8_both 100 = .ok (.iconst 0, 1) := by decide +kernel
theorem dX8_both_101 : decode cX8_both 101 = .ok (.ireturn, 1) := by decide +kernel
theorem dX8_both_102 : decode cX8_both 102 = .ok (.iload_n 1, 1) := by decide +kernel
theorem dX8_both_103 : decode cX8_both 103 = .ok (.iload_n 2, 1) := by decide +kernel
theorem dX8_both_104 : decode cX8_both 104 = .ok (.if_icmp .le 7, 3) := by decide +kernel
theorem dX8_both_107 : decode cX8_both 107 = .ok (.iconst 1, 1) := by decide +kernel
theorem dX8_both_108 : decode cX8_both 108 = .ok (.goto 4, 3) := by decide +kernel
theorem dX8_both_111 : decode cX8_both 111 = .ok (.iconst 0, 1) := by decide +kernel
theorem dX8_both_112 : decode cX8_both 112 = .ok (.ireturn, 1) := by decide +kernel
theorem dX8_both_113 : decode cX8_both 113 = .ok (.iload_n 1, 1) := by decide +kernel
theorem dX8_both_114 : decode cX8_both 114 = .ok (.iload_n 2, 1) := by decide +kernel
theorem dX8_both_115 : decode cX8_both 115 = .ok (.iadd, 1) := by decide +kernel
theorem dX8_both_116 : decode cX8_both 116 = .ok (.ireturn, 1) := by decide +kernel
theorem dX8_both_117 : decode cX8_both 117 = .ok (.iload_n 1, 1) := by decide +kernel
theorem dX8_both_118 : decode cX8_both 118 = .ok (.iload_n 2, 1) := by decide +kernel
theorem dX8_both_119 : decode cX8_both 119 = .ok (.isub, 1) := by decide +kernel
theorem dX8_both_120 : decode cX8_both 120 = .ok (.ireturn, 1) := by decide +kernel
theorem dX8_both_121 : decode cX8_both 121 = .ok (.iload_n 1, 1) := by decide +kernel
theorem dX8_both_122 : decode cX8_both 122 = .ok (.iload_n 2, 1) := by decide +kernel
theorem dX8_both_123 : decode cX8_both 123 = .ok (.imul, 1) := by decide +kernel
theorem dX8_both_124 : decode cX8_both 124 = .ok (.ireturn, 1) := by decide +kernel
theorem dX8_both_125 : decode cX8_both 125 = .ok (.iload_n 2, 1) := by decide +kernel
theorem dX8_both_126 : decode cX8_both 126 = .ok (.ifCond .ne 7, 3) := by decide +kernel
theorem dX8_both_129 : decode cX8_both 129 = .ok (.iconst 0, 1) := by decide +kernel
theorem dX8_both_130 : decode cX8_both 130 = .ok (.goto 6, 3) := by decide +kernel
theorem dX8_both_133 : decode cX8_both 133 = .ok (.iload_n 1, 1) := by decide +kernel
theorem dX8_both_134 : decode cX8_both 134 = .ok (.iload_n 2, 1) := by decide +kernel
theorem dX8_both_135 : decode cX8_both 135 = .ok (.idiv, 1) := by decide +kernel
theorem dX8_both_136 : decode cX8_both 136 = .ok (.ireturn, 1) := by decide +kernel
theorem dX8_both_137 : decode cX8_both 137 = .ok (.iload_n 2, 1) := by decide +kernel
theorem dX8_both_138 : decode cX8_both 138 = .ok (.ifCond .ne 7, 3) := by decide +kernel
theorem dX8_both_141 : decode cX8_both 141 = .ok (.iconst 0, 1) := by decide +kernel
theorem dX8_both_142 : decode cX8_both 142 = .ok (.goto 6, 3) := by decide +kernel
theorem dX8_both_145 : decode cX8_both 145 = .ok (.iload_n 1, 1) := by decide +kernel
theorem dX8_both_146 : decode cX8_both 146 = .ok (.iload_n 2, 1) := by decide +kernel
theorem dX8_both_147 : decode cX8_both 147 = .ok (.irem, 1) := by decide +kernel
theorem dX8_both_148 : decode cX8_both 148 = .ok (.ireturn, 1) := by decide +kernel
theorem dX8_worked_0 : decode cX8_worked 0 = .ok (.iconst 0, 1) := by decide +kernel
theorem dX8_worked_1 : decode cX8_worked 1 = .ok (.istore_n 3, 1) := by decide +kernel
theorem dX8_worked_2 : decode cX8_worked 2 = .ok (.iload_n 1, 1) := by decide +kernel
theorem dX8_worked_3 : decode cX8_worked 3 = .ok (.istore 4, 2) := by decide +kernel
theorem dX8_worked_5 : decode cX8_worked 5 = .ok (.iload 4, 2) := by decide +kernel
theorem dX8_worked_7 : decode cX8_worked 7 = .ok (.iload_n 2, 1) := by decide +kernel
theorem dX8_worked_8 : decode cX8_worked 8 = .ok (.if_icmp .ge 155, 3) := by decide +kernel
theorem dX8_worked_11 : decode cX8_worked 11 = .ok (.aload_n 0, 1) := by decide +kernel
theorem dX8_worked_12 : decode cX8_worked 12 = .ok (.getfield 30, 3) := by decide +kernel
theorem dX8_worked_15 : decode cX8_worked 15 = .ok (.iload 4, 2) := by decide +kernel
theorem dX8_worked_17 : decode cX8_worked 17 = .ok (.iaload, 1) := by decide +kernel
theorem dX8_worked_18 : decode cX8_worked 18 = .ok (.istore 5, 2) := by decide +kernel
theorem dX8_worked_20 : decode cX8_worked 20 = .ok (.iload 5, 2) := by decide +kernel
theorem dX8_worked_22 : decode cX8_worked 22 = .ok (.bipush 18, 2) := by decide +kernel
theorem dX8_worked_24 : decode cX8_worked 24 = .ok (.if_icmp .ge 9, 3) := by decide +kernel
theorem dX8_worked_27 : decode cX8_worked 27 = .ok (.iload 5, 2) := by decide +kernel
theorem dX8_worked_29 : decode cX8_worked 29 = .ok (.iconst 5, 1) := by decide +kernel
theorem dX8_worked_30 : decode cX8_worked 30 = .ok (.if_icmp .gt 37, 3) := by decide +kernel
theorem dX8_worked_33 : decode cX8_worked 33 = .ok (.aload_n 0, 1) := by decide +kernel
theorem dX8_worked_34 : decode cX8_worked 34 = .ok (.getfield 45, 3) := by decide +kernel
theorem dX8_worked_37 : decode cX8_worked 37 = .ok (.iload_n 3, 1) := by decide +kernel
theorem dX8_worked_38 : decode cX8_worked 38 = .ok (.iinc 3 1, 3) := by decide +kernel
theorem dX8_worked_41 : decode cX8_worked 41 = .ok (.iload 5, 2) := by decide +kernel
theorem dX8_worked_43 : decode cX8_worked 43 = .ok (.bipush 18, 2) := by decide +kernel
theorem dX8_worked_45 : decode cX8_worked 45 = .ok (.if_icmp .lt 11, 3) := by decide +kernel
theorem dX8_worked_48 : decode cX8_worked 48 = .ok (.iload 5, 2) := by decide +kernel
theorem dX8_worked_50 : decode cX8_worked 50 = .ok (.bipush 18, 2) := by decide +kernel
theorem dX8_worked_52 : decode cX8_worked 52 = .ok (.isub, 1) := by decide +kernel
theorem dX8_worked_53 : decode cX8_worked 53 = .ok (.goto 10, 3) := by decide +kernel
theorem dX8_worked_56 : decode cX8_worked 56 = .ok (.aload_n 0, 1) := by decide +kernel
theorem dX8_worked_57 : decode cX8_worked 57 = .ok (.getfield 48, 3) := by decide +kernel
theorem dX8_worked_60 : decode cX8_worked 60 = .ok (.iload 5, 2) := by decide +kernel
theorem dX8_worked_62 : decode cX8_worked 62 = .ok (.iaload, 1) := by decide +kernel
theorem dX8_worked_63 : decode cX8_worked 63 = .ok (.iastore, 1) := by decide +kernel
theorem dX8_worked_64 : decode cX8_worked 64 = .ok (.goto 93, 3) := by decide +kernel
theorem dX8_worked_67 : decode cX8_worked 67 = .ok (.iload 5, 2) := by decide +kernel
theorem dX8_worked_69 : decode cX8_worked 69 = .ok (.bipush 16, 2) := by decide +kernel
theorem dX8_worked_71 : decode cX8_worked 71 = .ok (.if_icmp .eq 10, 3) := by decide +kernel
theorem dX8_worked_74 : decode cX8_worked 74 = .ok (.iload 5, 2) := by decide +kernel
theorem dX8_worked_76 : decode cX8_worked 76 = .ok (.bipush 17, 2) := by decide +kernel
theorem dX8_worked_78 : decode cX8_worked 78 = .ok (.if_icmp .ne 49, 3) := by decide +kernel
theorem dX8_worked_81 : decode cX8_worked 81 = .ok (.aload_n 0, 1) := by decide +kernel
theorem dX8_worked_82 : decode cX8_worked 82 = .ok (.getfield 45, 3) := by decide +kernel
theorem dX8_worked_85 : decode cX8_worked 85 = .ok (.iload_n 3, 1) := by decide +kernel
theorem dX8_worked_86 : decode cX8_worked 86 = .ok (.iconst 1, 1) := by decide +kernel
theorem dX8_worked_87 : decode cX8_worked 87 = .ok (.isub, 1) := by decide +kernel
theorem dX8_worked_88 : decode cX8_worked 88 = .ok (.iload 5, 2) := by decide +kernel
theorem dX8_worked_90 : decode cX8_worked 90 = .ok (.bipush 17, 2) := by decide +kernel
theorem dX8_worked_92 : decode cX8_worked 92 = .ok (.if_icmp .ne 15, 3) := by decide +kernel
theorem dX8_worked_95 : decode cX8_worked 95 = .ok (.aload_n 0, 1) := by decide +kernel
theorem dX8_worked_96 : decode cX8_worked 96 = .ok (.getfield 45, 3) := by decide +kernel
theorem dX8_worked_99 : decode cX8_worked 99 = .ok (.iload_n 3, 1) := by decide +kernel
theorem dX8_worked_100 : decode cX8_worked 100 = .ok (.iconst 1, 1) := by decide +kernel
theorem dX8_worked_101 : decode cX8_worked 101 = .ok (.isub, 1) := by decide +kernel
theorem dX8_worked_102 : decode cX8_worked 102 = .ok (.iaload, 1) := by decide +kernel
theorem dX8_worked_103 : decode cX8_worked 103 = .ok (.ineg, 1) := by decide +kernel
theorem dX8_worked_104 : decode cX8_worked 104 = .ok (.goto 19, 3) := by decide +kernel
theorem dX8_worked_107 : decode cX8_worked 107 = .ok (.aload_n 0, 1) := by decide +kernel
theorem dX8_worked_108 : decode cX8_worked 108 = .ok (.getfield 45, 3) := by decide +kernel
theorem dX8_worked_111 : decode cX8_worked 111 = .ok (.iload_n 3, 1) := by decide +kernel
theorem dX8_worked_112 : decode cX8_worked 112 = .ok (.iconst 1, 1) := by decide +kernel
theorem dX8_worked_113 : decode cX8_worked 113 = .ok (.isub, 1) := by decide +kernel
theorem dX8_worked_114 : decode cX8_worked 114 = .ok (.iaload, 1) := by decide +kernel
theorem dX8_worked_115 : decode cX8_worked 115 = .ok (.ifCond .ne 7, 3) := by decide +kernel
theorem dX8_worked_118 : decode cX8_worked 118 = .ok (.iconst 1, 1) := by decide +kernel
theorem dX8_worked_119 : decode cX8_worked 119 = .ok (.goto 4, 3) := by decide +kernel
theorem dX8_worked_122 : decode cX8_worked 122 = .ok (.iconst 0, 1) := by decide +kernel
theorem dX8_worked_123 : decode cX8_worked 123 = .ok (.iastore, 1) := by decide +kernel
theorem dX8_worked_124 : decode cX8_worked 124 = .ok (.goto 33, 3) := by decide +kernel
theorem dX8_worked_127 : decode cX8_worked 127 = .ok (.iinc 3 (-1), 3) := by decide +kernel
theorem dX8_worked_130 : decode cX8_worked 130 = .ok (.aload_n 0, 1) := by decide +kernel
theorem dX8_worked_131 : decode cX8_worked 131 = .ok (.getfield 45, 3) := by decide +kernel
theorem dX8_worked_134 : decode cX8_worked 134 = .ok (.iload_n 3, 1) := by decide +kernel
theorem dX8_worked_135 : decode cX8_worked 135 = .ok (.iconst 1, 1) := by decide +kernel
theorem dX8_worked_136 : decode cX8_worked 136 = .ok (.isub, 1) := by decide +kernel
theorem dX8_worked_137 : decode cX8_worked 137 = .ok (.iload 5, 2) := by decide +kernel
theorem dX8_worked_139 : decode cX8_worked 139 = .ok (.aload_n 0, 1) := by decide +kernel
theorem dX8_worked_140 : decode cX8_worked 140 = .ok (.getfield 45, 3) := by decide +kernel
theorem dX8_worked_143 : decode cX8_worked 143 = .ok (.iload_n 3, 1) := by decide +kernel
theorem dX8_worked_144 : decode cX8_worked 144 = .ok (.iconst 1, 1) := by decide +kernel
theorem dX8_worked_145 : decode cX8_worked 145 = .ok (.isub, 1) := by decide +kernel
theorem dX8_worked_146 : decode cX8_worked 146 = .ok (.iaload, 1) := by decide +kernel
theorem dX8_worked_147 : decode cX8_worked 147 = .ok (.aload_n 0, 1) := by decide +kernel
theorem dX8_worked_148 : decode cX8_worked 148 = .ok (.getfield 45, 3) := by decide +kernel
theorem dX8_worked_151 : decode cX8_worked 151 = .ok (.iload_n 3, 1) := by decide +kernel
theorem dX8_worked_152 : decode cX8_worked 152 = .ok (.iaload, 1) := by decide +kernel
theorem dX8_worked_153 : decode cX8_worked 153 = .ok (.invokestatic 200, 3) := by decide +kernel
theorem dX8_worked_156 : decode cX8_worked 156 = .ok (.iastore, 1) := by decide +kernel
theorem dX8_worked_157 : decode cX8_worked 157 = .ok (.iinc 4 1, 3) := by decide +kernel
theorem dX8_worked_160 : decode cX8_worked 160 = .ok (.goto (-155), 3) := by decide +kernel
theorem dX8_worked_163 : decode cX8_worked 163 = .ok (.aload_n 0, 1) := by decide +kernel
theorem dX8_worked_164 : decode cX8_worked 164 = .ok (.getfield 45, 3) := by decide +kernel
theorem dX8_worked_167 : decode cX8_worked 167 = .ok (.iconst 0, 1) := by decide +kernel
theorem dX8_worked_168 : decode cX8_worked 168 = .ok (.iaload, 1) := by decide +kernel
theorem dX8_worked_169 : decode cX8_worked 169 = .ok (.ireturn, 1) := by decide +kernel
theorem dX8_wants_0 : decode cX8_wants 0 = .ok (.aload_n 0, 1) := by decide +kernel
theorem dX8_wants_1 : decode cX8_wants 1 = .ok (.getfield 9, 3) := by decide +kernel
theorem dX8_wants_4 : decode cX8_wants 4 = .ok (.iload_n 1, 1) := by decide +kernel
theorem dX8_wants_5 : decode cX8_wants 5 = .ok (.iaload, 1) := by decide +kernel
theorem dX8_wants_6 : decode cX8_wants 6 = .ok (.iload_n 2, 1) := by decide +kernel
theorem dX8_wants_7 : decode cX8_wants 7 = .ok (.invokestatic 203, 3) := by decide +kernel
theorem dX8_wants_10 : decode cX8_wants 10 = .ok (.ireturn, 1) := by decide +kernel
theorem dX8_byLaw_0 : decode cX8_byLaw 0 = .ok (.aload_n 0, 1) := by decide +kernel
theorem dX8_byLaw_1 : decode cX8_byLaw 1 = .ok (.getfield 15, 3) := by decide +kernel
theorem dX8_byLaw_4 : decode cX8_byLaw 4 = .ok (.iconst 1, 1) := by decide +kernel
theorem dX8_byLaw_5 : decode cX8_byLaw 5 = .ok (.iaload, 1) := by decide +kernel
theorem dX8_byLaw_6 : decode cX8_byLaw 6 = .ok (.istore_n 2, 1) := by decide +kernel
theorem dX8_byLaw_7 : decode cX8_byLaw 7 = .ok (.aload_n 0, 1) := by decide +kernel
theorem dX8_byLaw_8 : decode cX8_byLaw 8 = .ok (.getfield 48, 3) := by decide +kernel
theorem dX8_byLaw_11 : decode cX8_byLaw 11 = .ok (.iconst 0, 1) := by decide +kernel
theorem dX8_byLaw_12 : decode cX8_byLaw 12 = .ok (.aload_n 0, 1) := by decide +kernel
theorem dX8_byLaw_13 : decode cX8_byLaw 13 = .ok (.getfield 9, 3) := by decide +kernel
theorem dX8_byLaw_16 : decode cX8_byLaw 16 = .ok (.bipush 28, 2) := by decide +kernel
theorem dX8_byLaw_18 : decode cX8_byLaw 18 = .ok (.iload_n 2, 1) := by decide +kernel
theorem dX8_byLaw_19 : decode cX8_byLaw 19 = .ok (.iadd, 1) := by decide +kernel
theorem dX8_byLaw_20 : decode cX8_byLaw 20 = .ok (.iaload, 1) := by decide +kernel
theorem dX8_byLaw_21 : decode cX8_byLaw 21 = .ok (.iastore, 1) := by decide +kernel
theorem dX8_byLaw_22 : decode cX8_byLaw 22 = .ok (.aload_n 0, 1) := by decide +kernel
theorem dX8_byLaw_23 : decode cX8_byLaw 23 = .ok (.getfield 48, 3) := by decide +kernel
theorem dX8_byLaw_26 : decode cX8_byLaw 26 = .ok (.iconst 1, 1) := by decide +kernel
theorem dX8_byLaw_27 : decode cX8_byLaw 27 = .ok (.aload_n 0, 1) := by decide +kernel
theorem dX8_byLaw_28 : decode cX8_byLaw 28 = .ok (.getfield 9, 3) := by decide +kernel
theorem dX8_byLaw_31 : decode cX8_byLaw 31 = .ok (.bipush 7, 2) := by decide +kernel
theorem dX8_byLaw_33 : decode cX8_byLaw 33 = .ok (.iload_n 1, 1) := by decide +kernel
theorem dX8_byLaw_34 : decode cX8_byLaw 34 = .ok (.iadd, 1) := by decide +kernel
theorem dX8_byLaw_35 : decode cX8_byLaw 35 = .ok (.iaload, 1) := by decide +kernel
theorem dX8_byLaw_36 : decode cX8_byLaw 36 = .ok (.iastore, 1) := by decide +kernel
theorem dX8_byLaw_37 : decode cX8_byLaw 37 = .ok (.aload_n 0, 1) := by decide +kernel
theorem dX8_byLaw_38 : decode cX8_byLaw 38 = .ok (.getfield 48, 3) := by decide +kernel
theorem dX8_byLaw_41 : decode cX8_byLaw 41 = .ok (.iconst 2, 1) := by decide +kernel
theorem dX8_byLaw_42 : decode cX8_byLaw 42 = .ok (.aload_n 0, 1) := by decide +kernel
theorem dX8_byLaw_43 : decode cX8_byLaw 43 = .ok (.getfield 15, 3) := by decide +kernel
theorem dX8_byLaw_46 : decode cX8_byLaw 46 = .ok (.iconst 0, 1) := by decide +kernel
theorem dX8_byLaw_47 : decode cX8_byLaw 47 = .ok (.iaload, 1) := by decide +kernel
theorem dX8_byLaw_48 : decode cX8_byLaw 48 = .ok (.iastore, 1) := by decide +kernel
theorem dX8_byLaw_49 : decode cX8_byLaw 49 = .ok (.aload_n 0, 1) := by decide +kernel
theorem dX8_byLaw_50 : decode cX8_byLaw 50 = .ok (.getfield 48, 3) := by decide +kernel
theorem dX8_byLaw_53 : decode cX8_byLaw 53 = .ok (.iconst 3, 1) := by decide +kernel
theorem dX8_byLaw_54 : decode cX8_byLaw 54 = .ok (.aload_n 0, 1) := by decide +kernel
theorem dX8_byLaw_55 : decode cX8_byLaw 55 = .ok (.iload_n 1, 1) := by decide +kernel
theorem dX8_byLaw_56 : decode cX8_byLaw 56 = .ok (.iload_n 2, 1) := by decide +kernel
theorem dX8_byLaw_57 : decode cX8_byLaw 57 = .ok (.invokevirtual 206, 3) := by decide +kernel
theorem dX8_byLaw_60 : decode cX8_byLaw 60 = .ok (.ifCond .eq 7, 3) := by decide +kernel
theorem dX8_byLaw_63 : decode cX8_byLaw 63 = .ok (.iconst 1, 1) := by decide +kernel
theorem dX8_byLaw_64 : decode cX8_byLaw 64 = .ok (.goto 4, 3) := by decide +kernel
theorem dX8_byLaw_67 : decode cX8_byLaw 67 = .ok (.iconst 0, 1) := by decide +kernel
theorem dX8_byLaw_68 : decode cX8_byLaw 68 = .ok (.iastore, 1) := by decide +kernel
theorem dX8_byLaw_69 : decode cX8_byLaw 69 = .ok (.aload_n 0, 1) := by decide +kernel
theorem dX8_byLaw_70 : decode cX8_byLaw 70 = .ok (.getfield 48, 3) := by decide +kernel
theorem dX8_byLaw_73 : decode cX8_byLaw 73 = .ok (.iconst 4, 1) := by decide +kernel
theorem dX8_byLaw_74 : decode cX8_byLaw 74 = .ok (.aload_n 0, 1) := by decide +kernel
theorem dX8_byLaw_75 : decode cX8_byLaw 75 = .ok (.getfield 9, 3) := by decide +kernel
theorem dX8_byLaw_78 : decode cX8_byLaw 78 = .ok (.bipush 14, 2) := by decide +kernel
theorem dX8_byLaw_80 : decode cX8_byLaw 80 = .ok (.iload_n 1, 1) := by decide +kernel
theorem dX8_byLaw_81 : decode cX8_byLaw 81 = .ok (.iadd, 1) := by decide +kernel
theorem dX8_byLaw_82 : decode cX8_byLaw 82 = .ok (.iaload, 1) := by decide +kernel
theorem dX8_byLaw_83 : decode cX8_byLaw 83 = .ok (.invokestatic 209, 3) := by decide +kernel
theorem dX8_byLaw_86 : decode cX8_byLaw 86 = .ok (.iastore, 1) := by decide +kernel
theorem dX8_byLaw_87 : decode cX8_byLaw 87 = .ok (.aload_n 0, 1) := by decide +kernel
theorem dX8_byLaw_88 : decode cX8_byLaw 88 = .ok (.getfield 48, 3) := by decide +kernel
theorem dX8_byLaw_91 : decode cX8_byLaw 91 = .ok (.iconst 5, 1) := by decide +kernel
theorem dX8_byLaw_92 : decode cX8_byLaw 92 = .ok (.iload_n 2, 1) := by decide +kernel
theorem dX8_byLaw_93 : decode cX8_byLaw 93 = .ok (.iastore, 1) := by decide +kernel
theorem dX8_byLaw_94 : decode cX8_byLaw 94 = .ok (.iconst 0, 1) := by decide +kernel
theorem dX8_byLaw_95 : decode cX8_byLaw 95 = .ok (.istore_n 3, 1) := by decide +kernel
theorem dX8_byLaw_96 : decode cX8_byLaw 96 = .ok (.iload_n 3, 1) := by decide +kernel
theorem dX8_byLaw_97 : decode cX8_byLaw 97 = .ok (.aload_n 0, 1) := by decide +kernel
theorem dX8_byLaw_98 : decode cX8_byLaw 98 = .ok (.getfield 197, 3) := by decide +kernel
theorem dX8_byLaw_101 : decode cX8_byLaw 101 = .ok (.if_icmp .ge 63, 3) := by decide +kernel
theorem dX8_byLaw_104 : decode cX8_byLaw 104 = .ok (.aload_n 0, 1) := by decide +kernel
theorem dX8_byLaw_105 : decode cX8_byLaw 105 = .ok (.getfield 24, 3) := by decide +kernel
theorem dX8_byLaw_108 : decode cX8_byLaw 108 = .ok (.iload_n 3, 1) := by decide +kernel
theorem dX8_byLaw_109 : decode cX8_byLaw 109 = .ok (.iaload, 1) := by decide +kernel
theorem dX8_byLaw_110 : decode cX8_byLaw 110 = .ok (.aload_n 0, 1) := by decide +kernel
theorem dX8_byLaw_111 : decode cX8_byLaw 111 = .ok (.getfield 21, 3) := by decide +kernel
theorem dX8_byLaw_114 : decode cX8_byLaw 114 = .ok (.iload_n 3, 1) := by decide +kernel
theorem dX8_byLaw_115 : decode cX8_byLaw 115 = .ok (.iaload, 1) := by decide +kernel
theorem dX8_byLaw_116 : decode cX8_byLaw 116 = .ok (.if_icmp .le 25, 3) := by decide +kernel
theorem dX8_byLaw_119 : decode cX8_byLaw 119 = .ok (.aload_n 0, 1) := by decide +kernel
theorem dX8_byLaw_120 : decode cX8_byLaw 120 = .ok (.aload_n 0, 1) := by decide +kernel
theorem dX8_byLaw_121 : decode cX8_byLaw 121 = .ok (.getfield 21, 3) := by decide +kernel
theorem dX8_byLaw_124 : decode cX8_byLaw 124 = .ok (.iload_n 3, 1) := by decide +kernel
theorem dX8_byLaw_125 : decode cX8_byLaw 125 = .ok (.iaload, 1) := by decide +kernel
theorem dX8_byLaw_126 : decode cX8_byLaw 126 = .ok (.aload_n 0, 1) := by decide +kernel
theorem dX8_byLaw_127 : decode cX8_byLaw 127 = .ok (.getfield 24, 3) := by decide +kernel
theorem dX8_byLaw_130 : decode cX8_byLaw 130 = .ok (.iload_n 3, 1) := by decide +kernel
theorem dX8_byLaw_131 : decode cX8_byLaw 131 = .ok (.iaload, 1) := by decide +kernel
theorem dX8_byLaw_132 : decode cX8_byLaw 132 = .ok (.invokevirtual 214, 3) := by decide +kernel
theorem dX8_byLaw_135 : decode cX8_byLaw 135 = .ok (.ifCond .ne 6, 3) := by decide +kernel
theorem dX8_byLaw_138 : decode cX8_byLaw 138 = .ok (.goto 20, 3) := by decide +kernel
theorem dX8_byLaw_141 : decode cX8_byLaw 141 = .ok (.aload_n 0, 1) := by decide +kernel
theorem dX8_byLaw_142 : decode cX8_byLaw 142 = .ok (.aload_n 0, 1) := by decide +kernel
theorem dX8_byLaw_143 : decode cX8_byLaw 143 = .ok (.getfield 24, 3) := by decide +kernel
theorem dX8_byLaw_146 : decode cX8_byLaw 146 = .ok (.iload_n 3, 1) := by decide +kernel
theorem dX8_byLaw_147 : decode cX8_byLaw 147 = .ok (.iaload, 1) := by decide +kernel
theorem dX8_byLaw_148 : decode cX8_byLaw 148 = .ok (.aload_n 0, 1) := by decide +kernel
theorem dX8_byLaw_149 : decode cX8_byLaw 149 = .ok (.getfield 27, 3) := by decide +kernel
theorem dX8_byLaw_152 : decode cX8_byLaw 152 = .ok (.iload_n 3, 1) := by decide +kernel
theorem dX8_byLaw_153 : decode cX8_byLaw 153 = .ok (.iaload, 1) := by decide +kernel
theorem dX8_byLaw_154 : decode cX8_byLaw 154 = .ok (.invokevirtual 214, 3) := by decide +kernel
theorem dX8_byLaw_157 : decode cX8_byLaw 157 = .ok (.ireturn, 1) := by decide +kernel
theorem dX8_byLaw_158 : decode cX8_byLaw 158 = .ok (.iinc 3 1, 3) := by decide +kernel
theorem dX8_byLaw_161 : decode cX8_byLaw 161 = .ok (.goto (-65), 3) := by decide +kernel
theorem dX8_byLaw_164 : decode cX8_byLaw 164 = .ok (.iconst 0, 1) := by decide +kernel
theorem dX8_byLaw_165 : decode cX8_byLaw 165 = .ok (.ireturn, 1) := by decide +kernel
theorem dX8_doneBy_0 : decode cX8_doneBy 0 = .ok (.aload_n 0, 1) := by decide +kernel
theorem dX8_doneBy_1 : decode cX8_doneBy 1 = .ok (.getfield 15, 3) := by decide +kernel
theorem dX8_doneBy_4 : decode cX8_doneBy 4 = .ok (.iconst 1, 1) := by decide +kernel
theorem dX8_doneBy_5 : decode cX8_doneBy 5 = .ok (.iaload, 1) := by decide +kernel
theorem dX8_doneBy_6 : decode cX8_doneBy 6 = .ok (.istore_n 2, 1) := by decide +kernel
theorem dX8_doneBy_7 : decode cX8_doneBy 7 = .ok (.aload_n 0, 1) := by decide +kernel
theorem dX8_doneBy_8 : decode cX8_doneBy 8 = .ok (.getfield 193, 3) := by decide +kernel
theorem dX8_doneBy_11 : decode cX8_doneBy 11 = .ok (.ifCond .eq 11, 3) := by decide +kernel
theorem dX8_doneBy_14 : decode cX8_doneBy 14 = .ok (.aload_n 0, 1) := by decide +kernel
theorem dX8_doneBy_15 : decode cX8_doneBy 15 = .ok (.iload_n 1, 1) := by decide +kernel
theorem dX8_doneBy_16 : decode cX8_doneBy 16 = .ok (.invokevirtual 217, 3) := by decide +kernel
theorem dX8_doneBy_19 : decode cX8_doneBy 19 = .ok (.goto 51, 3) := by decide +kernel
theorem dX8_doneBy_22 : decode cX8_doneBy 22 = .ok (.iconst 2, 1) := by decide +kernel
theorem dX8_doneBy_23 : decode cX8_doneBy 23 = .ok (.aload_n 0, 1) := by decide +kernel
theorem dX8_doneBy_24 : decode cX8_doneBy 24 = .ok (.getfield 9, 3) := by decide +kernel
theorem dX8_doneBy_27 : decode cX8_doneBy 27 = .ok (.bipush 28, 2) := by decide +kernel
theorem dX8_doneBy_29 : decode cX8_doneBy 29 = .ok (.iload_n 2, 1) := by decide +kernel
theorem dX8_doneBy_30 : decode cX8_doneBy 30 = .ok (.iadd, 1) := by decide +kernel
theorem dX8_doneBy_31 : decode cX8_doneBy 31 = .ok (.iaload, 1) := by decide +kernel
theorem dX8_doneBy_32 : decode cX8_doneBy 32 = .ok (.imul, 1) := by decide +kernel
theorem dX8_doneBy_33 : decode cX8_doneBy 33 = .ok (.aload_n 0, 1) := by decide +kernel
theorem dX8_doneBy_34 : decode cX8_doneBy 34 = .ok (.iload_n 1, 1) := by decide +kernel
theorem dX8_doneBy_35 : decode cX8_doneBy 35 = .ok (.iload_n 2, 1) := by decide +kernel
theorem dX8_doneBy_36 : decode cX8_doneBy 36 = .ok (.invokevirtual 206, 3) := by decide +kernel
theorem dX8_doneBy_39 : decode cX8_doneBy 39 = .ok (.ifCond .eq 7, 3) := by decide +kernel
theorem dX8_doneBy_42 : decode cX8_doneBy 42 = .ok (.iconst 3, 1) := by decide +kernel
theorem dX8_doneBy_43 : decode cX8_doneBy 43 = .ok (.goto 4, 3) := by decide +kernel
theorem dX8_doneBy_46 : decode cX8_doneBy 46 = .ok (.iconst 0, 1) := by decide +kernel
theorem dX8_doneBy_47 : decode cX8_doneBy 47 = .ok (.iadd, 1) := by decide +kernel
theorem dX8_doneBy_48 : decode cX8_doneBy 48 = .ok (.aload_n 0, 1) := by decide +kernel
theorem dX8_doneBy_49 : decode cX8_doneBy 49 = .ok (.getfield 9, 3) := by decide +kernel
theorem dX8_doneBy_52 : decode cX8_doneBy 52 = .ok (.bipush 7, 2) := by decide +kernel
theorem dX8_doneBy_54 : decode cX8_doneBy 54 = .ok (.iload_n 1, 1) := by decide +kernel
theorem dX8_doneBy_55 : decode cX8_doneBy 55 = .ok (.iadd, 1) := by decide +kernel
theorem dX8_doneBy_56 : decode cX8_doneBy 56 = .ok (.iaload, 1) := by decide +kernel
theorem dX8_doneBy_57 : decode cX8_doneBy 57 = .ok (.iconst 5, 1) := by decide +kernel
theorem dX8_doneBy_58 : decode cX8_doneBy 58 = .ok (.idiv, 1) := by decide +kernel
theorem dX8_doneBy_59 : decode cX8_doneBy 59 = .ok (.iadd, 1) := by decide +kernel
theorem dX8_doneBy_60 : decode cX8_doneBy 60 = .ok (.aload_n 0, 1) := by decide +kernel
theorem dX8_doneBy_61 : decode cX8_doneBy 61 = .ok (.getfield 15, 3) := by decide +kernel
theorem dX8_doneBy_64 : decode cX8_doneBy 64 = .ok (.iconst 0, 1) := by decide +kernel
theorem dX8_doneBy_65 : decode cX8_doneBy 65 = .ok (.iaload, 1) := by decide +kernel
theorem dX8_doneBy_66 : decode cX8_doneBy 66 = .ok (.bipush 10, 2) := by decide +kernel
theorem dX8_doneBy_68 : decode cX8_doneBy 68 = .ok (.idiv, 1) := by decide +kernel
theorem dX8_doneBy_69 : decode cX8_doneBy 69 = .ok (.isub, 1) := by decide +kernel
theorem dX8_doneBy_70 : decode cX8_doneBy 70 = .ok (.istore_n 3, 1) := by decide +kernel
theorem dX8_doneBy_71 : decode cX8_doneBy 71 = .ok (.iconst 0, 1) := by decide +kernel
theorem dX8_doneBy_72 : decode cX8_doneBy 72 = .ok (.bipush 20, 2) := by decide +kernel
theorem dX8_doneBy_74 : decode cX8_doneBy 74 = .ok (.iload_n 3, 1) := by decide +kernel
theorem dX8_doneBy_75 : decode cX8_doneBy 75 = .ok (.invokestatic 220, 3) := by decide +kernel
theorem dX8_doneBy_78 : decode cX8_doneBy 78 = .ok (.invokestatic 225, 3) := by decide +kernel
theorem dX8_doneBy_81 : decode cX8_doneBy 81 = .ok (.ireturn, 1) := by decide +kernel
theorem dX8_does_0 : decode cX8_does 0 = .ok (.aload_n 0, 1) := by decide +kernel
theorem dX8_does_1 : decode cX8_does 1 = .ok (.iload_n 1, 1) := by decide +kernel
theorem dX8_does_2 : decode cX8_does 2 = .ok (.invokevirtual 116, 3) := by decide +kernel
theorem dX8_does_5 : decode cX8_does 5 = .ok (.ifCond .eq 11, 3) := by decide +kernel
theorem dX8_does_8 : decode cX8_does 8 = .ok (.aload_n 0, 1) := by decide +kernel
theorem dX8_does_9 : decode cX8_does 9 = .ok (.iload_n 1, 1) := by decide +kernel
theorem dX8_does_10 : decode cX8_does 10 = .ok (.invokevirtual 228, 3) := by decide +kernel
theorem dX8_does_13 : decode cX8_does 13 = .ok (.goto 4, 3) := by decide +kernel
theorem dX8_does_16 : decode cX8_does 16 = .ok (.iconst (-1), 1) := by decide +kernel
theorem dX8_does_17 : decode cX8_does 17 = .ok (.ireturn, 1) := by decide +kernel
theorem dX8_passes_0 : decode cX8_passes 0 = .ok (.aload_n 0, 1) := by decide +kernel
theorem dX8_passes_1 : decode cX8_passes 1 = .ok (.getfield 15, 3) := by decide +kernel
theorem dX8_passes_4 : decode cX8_passes 4 = .ok (.iconst 1, 1) := by decide +kernel
theorem dX8_passes_5 : decode cX8_passes 5 = .ok (.iaload, 1) := by decide +kernel
theorem dX8_passes_6 : decode cX8_passes 6 = .ok (.istore_n 2, 1) := by decide +kernel
theorem dX8_passes_7 : decode cX8_passes 7 = .ok (.iload_n 1, 1) := by decide +kernel
theorem dX8_passes_8 : decode cX8_passes 8 = .ok (.bipush 7, 2) := by decide +kernel
theorem dX8_passes_10 : decode cX8_passes 10 = .ok (.if_icmp .ne 7, 3) := by decide +kernel
theorem dX8_passes_13 : decode cX8_passes 13 = .ok (.iconst 0, 1) := by decide +kernel
theorem dX8_passes_14 : decode cX8_passes 14 = .ok (.goto 8, 3) := by decide +kernel
theorem dX8_passes_17 : decode cX8_passes 17 = .ok (.aload_n 0, 1) := by decide +kernel
theorem dX8_passes_18 : decode cX8_passes 18 = .ok (.iload_n 1, 1) := by decide +kernel
theorem dX8_passes_19 : decode cX8_passes 19 = .ok (.invokevirtual 228, 3) := by decide +kernel
theorem dX8_passes_22 : decode cX8_passes 22 = .ok (.istore_n 3, 1) := by decide +kernel
theorem dX8_passes_23 : decode cX8_passes 23 = .ok (.iload_n 1, 1) := by decide +kernel
theorem dX8_passes_24 : decode cX8_passes 24 = .ok (.bipush 7, 2) := by decide +kernel
theorem dX8_passes_26 : decode cX8_passes 26 = .ok (.if_icmp .eq 90, 3) := by decide +kernel
theorem dX8_passes_29 : decode cX8_passes 29 = .ok (.aload_n 0, 1) := by decide +kernel
theorem dX8_passes_30 : decode cX8_passes 30 = .ok (.getfield 9, 3) := by decide +kernel
theorem dX8_passes_33 : decode cX8_passes 33 = .ok (.bipush 28, 2) := by decide +kernel
theorem dX8_passes_35 : decode cX8_passes 35 = .ok (.iload_n 2, 1) := by decide +kernel
theorem dX8_passes_36 : decode cX8_passes 36 = .ok (.iadd, 1) := by decide +kernel
theorem dX8_passes_37 : decode cX8_passes 37 = .ok (.iaload, 1) := by decide +kernel
theorem dX8_passes_38 : decode cX8_passes 38 = .ok (.iconst 2, 1) := by decide +kernel
theorem dX8_passes_39 : decode cX8_passes 39 = .ok (.if_icmp .ne 26, 3) := by decide +kernel
theorem dX8_passes_42 : decode cX8_passes 42 = .ok (.aload_n 0, 1) := by decide +kernel
theorem dX8_passes_43 : decode cX8_passes 43 = .ok (.getfield 9, 3) := by decide +kernel
theorem dX8_passes_46 : decode cX8_passes 46 = .ok (.bipush 14, 2) := by decide +kernel
theorem dX8_passes_48 : decode cX8_passes 48 = .ok (.iload_n 1, 1) := by decide +kernel
theorem dX8_passes_49 : decode cX8_passes 49 = .ok (.iadd, 1) := by decide +kernel
theorem dX8_passes_50 : decode cX8_passes 50 = .ok (.dup2, 1) := by decide +kernel
theorem dX8_passes_51 : decode cX8_passes 51 = .ok (.iaload, 1) := by decide +kernel
theorem dX8_passes_52 : decode cX8_passes 52 = .ok (.iconst 1, 1) := by decide +kernel
theorem dX8_passes_53 : decode cX8_passes 53 = .ok (.aload_n 0, 1) := by decide +kernel
theorem dX8_passes_54 : decode cX8_passes 54 = .ok (.getfield 9, 3) := by decide +kernel
theorem dX8_passes_57 : decode cX8_passes 57 = .ok (.bipush 35, 2) := by decide +kernel
theorem dX8_passes_59 : decode cX8_passes 59 = .ok (.iload_n 2, 1) := by decide +kernel
theorem dX8_passes_60 : decode cX8_passes 60 = .ok (.iadd, 1) := by decide +kernel
theorem dX8_passes_61 : decode cX8_passes 61 = .ok (.iaload, 1) := by decide +kernel
theorem dX8_passes_62 : decode cX8_passes 62 = .ok (.ishl, 1) := by decide +kernel
theorem dX8_passes_63 : decode cX8_passes 63 = .ok (.ior, 1) := by decide +kernel
theorem dX8_passes_64 : decode cX8_passes 64 = .ok (.iastore, 1) := by decide +kernel
theorem dX8_passes_65 : decode cX8_passes 65 = .ok (.aload_n 0, 1) := by decide +kernel
theorem dX8_passes_66 : decode cX8_passes 66 = .ok (.getfield 9, 3) := by decide +kernel
theorem dX8_passes_69 : decode cX8_passes 69 = .ok (.bipush 7, 2) := by decide +kernel
theorem dX8_passes_71 : decode cX8_passes 71 = .ok (.iload_n 1, 1) := by decide +kernel
theorem dX8_passes_72 : decode cX8_passes 72 = .ok (.iadd, 1) := by decide +kernel
theorem dX8_passes_73 : decode cX8_passes 73 = .ok (.iconst 0, 1) := by decide +kernel
theorem dX8_passes_74 : decode cX8_passes 74 = .ok (.aload_n 0, 1) := by decide +kernel
theorem dX8_passes_75 : decode cX8_passes 75 = .ok (.getfield 9, 3) := by decide +kernel
theorem dX8_passes_78 : decode cX8_passes 78 = .ok (.bipush 7, 2) := by decide +kernel
theorem dX8_passes_80 : decode cX8_passes 80 = .ok (.iload_n 1, 1) := by decide +kernel
theorem dX8_passes_81 : decode cX8_passes 81 = .ok (.iadd, 1) := by decide +kernel
theorem dX8_passes_82 : decode cX8_passes 82 = .ok (.iaload, 1) := by decide +kernel
theorem dX8_passes_83 : decode cX8_passes 83 = .ok (.iconst 2, 1) := by decide +kernel
theorem dX8_passes_84 : decode cX8_passes 84 = .ok (.isub, 1) := by decide +kernel
theorem dX8_passes_85 : decode cX8_passes 85 = .ok (.invokestatic 225, 3) := by decide +kernel
theorem dX8_passes_88 : decode cX8_passes 88 = .ok (.iastore, 1) := by decide +kernel
theorem dX8_passes_89 : decode cX8_passes 89 = .ok (.aload_n 0, 1) := by decide +kernel
theorem dX8_passes_90 : decode cX8_passes 90 = .ok (.getfield 15, 3) := by decide +kernel
theorem dX8_passes_93 : decode cX8_passes 93 = .ok (.iconst 0, 1) := by decide +kernel
theorem dX8_passes_94 : decode cX8_passes 94 = .ok (.bipush 99, 2) := by decide +kernel
theorem dX8_passes_96 : decode cX8_passes 96 = .ok (.aload_n 0, 1) := by decide +kernel
theorem dX8_passes_97 : decode cX8_passes 97 = .ok (.getfield 15, 3) := by decide +kernel
theorem dX8_passes_100 : decode cX8_passes 100 = .ok (.iconst 0, 1) := by decide +kernel
theorem dX8_passes_101 : decode cX8_passes 101 = .ok (.iaload, 1) := by decide +kernel
theorem dX8_passes_102 : decode cX8_passes 102 = .ok (.aload_n 0, 1) := by decide +kernel
theorem dX8_passes_103 : decode cX8_passes 103 = .ok (.getfield 9, 3) := by decide +kernel
theorem dX8_passes_106 : decode cX8_passes 106 = .ok (.bipush 28, 2) := by decide +kernel
theorem dX8_passes_108 : decode cX8_passes 108 = .ok (.iload_n 2, 1) := by decide +kernel
theorem dX8_passes_109 : decode cX8_passes 109 = .ok (.iadd, 1) := by decide +kernel
theorem dX8_passes_110 : decode cX8_passes 110 = .ok (.iaload, 1) := by decide +kernel
theorem dX8_passes_111 : decode cX8_passes 111 = .ok (.iadd, 1) := by decide +kernel
theorem dX8_passes_112 : decode cX8_passes 112 = .ok (.invokestatic 220, 3) := by decide +kernel
theorem dX8_passes_115 : decode cX8_passes 115 = .ok (.iastore, 1) := by decide +kernel
theorem dX8_passes_116 : decode cX8_passes 116 = .ok (.iconst 0, 1) := by decide +kernel
theorem dX8_passes_117 : decode cX8_passes 117 = .ok (.istore 4, 2) := by decide +kernel
theorem dX8_passes_119 : decode cX8_passes 119 = .ok (.iload 4, 2) := by decide +kernel
theorem dX8_passes_121 : decode cX8_passes 121 = .ok (.aload_n 0, 1) := by decide +kernel
theorem dX8_passes_122 : decode cX8_passes 122 = .ok (.getfield 94, 3) := by decide +kernel
theorem dX8_passes_125 : decode cX8_passes 125 = .ok (.if_icmp .ge 52, 3) := by decide +kernel
theorem dX8_passes_128 : decode cX8_passes 128 = .ok (.iload 4, 2) := by decide +kernel
theorem dX8_passes_130 : decode cX8_passes 130 = .ok (.iload_n 1, 1) := by decide +kernel
theorem dX8_passes_131 : decode cX8_passes 131 = .ok (.if_icmp .eq 40, 3) := by decide +kernel
theorem dX8_passes_134 : decode cX8_passes 134 = .ok (.aload_n 0, 1) := by decide +kernel
theorem dX8_passes_135 : decode cX8_passes 135 = .ok (.iload 4, 2) := by decide +kernel
theorem dX8_passes_137 : decode cX8_passes 137 = .ok (.iload_n 2, 1) := by decide +kernel
theorem dX8_passes_138 : decode cX8_passes 138 = .ok (.invokevirtual 206, 3) := by decide +kernel
theorem dX8_passes_141 : decode cX8_passes 141 = .ok (.ifCond .eq 30, 3) := by decide +kernel
theorem dX8_passes_144 : decode cX8_passes 144 = .ok (.aload_n 0, 1) := by decide +kernel
theorem dX8_passes_145 : decode cX8_passes 145 = .ok (.getfield 9, 3) := by decide +kernel
theorem dX8_passes_148 : decode cX8_passes 148 = .ok (.bipush 7, 2) := by decide +kernel
theorem dX8_passes_150 : decode cX8_passes 150 = .ok (.iload 4, 2) := by decide +kernel
theorem dX8_passes_152 : decode cX8_passes 152 = .ok (.iadd, 1) := by decide +kernel
theorem dX8_passes_153 : decode cX8_passes 153 = .ok (.bipush 99, 2) := by decide +kernel
theorem dX8_passes_155 : decode cX8_passes 155 = .ok (.aload_n 0, 1) := by decide +kernel
theorem dX8_passes_156 : decode cX8_passes 156 = .ok (.getfield 9, 3) := by decide +kernel
theorem dX8_passes_159 : decode cX8_passes 159 = .ok (.bipush 7, 2) := by decide +kernel
theorem dX8_passes_161 : decode cX8_passes 161 = .ok (.iload 4, 2) := by decide +kernel
theorem dX8_passes_163 : decode cX8_passes 163 = .ok (.iadd, 1) := by decide +kernel
theorem dX8_passes_164 : decode cX8_passes 164 = .ok (.iaload, 1) := by decide +kernel
theorem dX8_passes_165 : decode cX8_passes 165 = .ok (.iconst 1, 1) := by decide +kernel
theorem dX8_passes_166 : decode cX8_passes 166 = .ok (.iadd, 1) := by decide +kernel
theorem dX8_passes_167 : decode cX8_passes 167 = .ok (.invokestatic 220, 3) := by decide +kernel
theorem dX8_passes_170 : decode cX8_passes 170 = .ok (.iastore, 1) := by decide +kernel
theorem dX8_passes_171 : decode cX8_passes 171 = .ok (.iinc 4 1, 3) := by decide +kernel
theorem dX8_passes_174 : decode cX8_passes 174 = .ok (.goto (-55), 3) := by decide +kernel
theorem dX8_passes_177 : decode cX8_passes 177 = .ok (.iload_n 1, 1) := by decide +kernel
theorem dX8_passes_178 : decode cX8_passes 178 = .ok (.bipush 7, 2) := by decide +kernel
theorem dX8_passes_180 : decode cX8_passes 180 = .ok (.if_icmp .eq 31, 3) := by decide +kernel
theorem dX8_passes_183 : decode cX8_passes 183 = .ok (.aload_n 0, 1) := by decide +kernel
theorem dX8_passes_184 : decode cX8_passes 184 = .ok (.getfield 9, 3) := by decide +kernel
theorem dX8_passes_187 : decode cX8_passes 187 = .ok (.bipush 14, 2) := by decide +kernel
theorem dX8_passes_189 : decode cX8_passes 189 = .ok (.iload_n 1, 1) := by decide +kernel
theorem dX8_passes_190 : decode cX8_passes 190 = .ok (.iconst 1, 1) := by decide +kernel
theorem dX8_passes_191 : decode cX8_passes 191 = .ok (.iadd, 1) := by decide +kernel
theorem dX8_passes_192 : decode cX8_passes 192 = .ok (.aload_n 0, 1) := by decide +kernel
theorem dX8_passes_193 : decode cX8_passes 193 = .ok (.getfield 94, 3) := by decide +kernel
theorem dX8_passes_196 : decode cX8_passes 196 = .ok (.irem, 1) := by decide +kernel
theorem dX8_passes_197 : decode cX8_passes 197 = .ok (.iadd, 1) := by decide +kernel
theorem dX8_passes_198 : decode cX8_passes 198 = .ok (.dup2, 1) := by decide +kernel
theorem dX8_passes_199 : decode cX8_passes 199 = .ok (.iaload, 1) := by decide +kernel
theorem dX8_passes_200 : decode cX8_passes 200 = .ok (.aload_n 0, 1) := by decide +kernel
theorem dX8_passes_201 : decode cX8_passes 201 = .ok (.getfield 9, 3) := by decide +kernel
theorem dX8_passes_204 : decode cX8_passes 204 = .ok (.bipush 14, 2) := by decide +kernel
theorem dX8_passes_206 : decode cX8_passes 206 = .ok (.iload_n 1, 1) := by decide +kernel
theorem dX8_passes_207 : decode cX8_passes 207 = .ok (.iadd, 1) := by decide +kernel
theorem dX8_passes_208 : decode cX8_passes 208 = .ok (.iaload, 1) := by decide +kernel
theorem dX8_passes_209 : decode cX8_passes 209 = .ok (.ior, 1) := by decide +kernel
theorem dX8_passes_210 : decode cX8_passes 210 = .ok (.iastore, 1) := by decide +kernel
theorem dX8_passes_211 : decode cX8_passes 211 = .ok (.aload_n 0, 1) := by decide +kernel
theorem dX8_passes_212 : decode cX8_passes 212 = .ok (.getfield 15, 3) := by decide +kernel
theorem dX8_passes_215 : decode cX8_passes 215 = .ok (.iconst 1, 1) := by decide +kernel
theorem dX8_passes_216 : decode cX8_passes 216 = .ok (.iload_n 2, 1) := by decide +kernel
theorem dX8_passes_217 : decode cX8_passes 217 = .ok (.iconst 1, 1) := by decide +kernel
theorem dX8_passes_218 : decode cX8_passes 218 = .ok (.iadd, 1) := by decide +kernel
theorem dX8_passes_219 : decode cX8_passes 219 = .ok (.bipush 7, 2) := by decide +kernel
theorem dX8_passes_221 : decode cX8_passes 221 = .ok (.irem, 1) := by decide +kernel
theorem dX8_passes_222 : decode cX8_passes 222 = .ok (.iastore, 1) := by decide +kernel
theorem dX8_passes_223 : decode cX8_passes 223 = .ok (.iload_n 3, 1) := by decide +kernel
theorem dX8_passes_224 : decode cX8_passes 224 = .ok (.ireturn, 1) := by decide +kernel
theorem dX8_keeps_0 : decode cX8_keeps 0 = .ok (.iconst 0, 1) := by decide +kernel
theorem dX8_keeps_1 : decode cX8_keeps 1 = .ok (.istore_n 2, 1) := by decide +kernel
theorem dX8_keeps_2 : decode cX8_keeps 2 = .ok (.iload_n 2, 1) := by decide +kernel
theorem dX8_keeps_3 : decode cX8_keeps 3 = .ok (.bipush 7, 2) := by decide +kernel
theorem dX8_keeps_5 : decode cX8_keeps 5 = .ok (.if_icmp .ge 36, 3) := by decide +kernel
theorem dX8_keeps_8 : decode cX8_keeps 8 = .ok (.aload_n 1, 1) := by decide +kernel
theorem dX8_keeps_9 : decode cX8_keeps 9 = .ok (.iload_n 2, 1) := by decide +kernel
theorem dX8_keeps_10 : decode cX8_keeps 10 = .ok (.aload_n 0, 1) := by decide +kernel
theorem dX8_keeps_11 : decode cX8_keeps 11 = .ok (.getfield 9, 3) := by decide +kernel
theorem dX8_keeps_14 : decode cX8_keeps 14 = .ok (.bipush 7, 2) := by decide +kernel
theorem dX8_keeps_16 : decode cX8_keeps 16 = .ok (.iload_n 2, 1) := by decide +kernel
theorem dX8_keeps_17 : decode cX8_keeps 17 = .ok (.iadd, 1) := by decide +kernel
theorem dX8_keeps_18 : decode cX8_keeps 18 = .ok (.iaload, 1) := by decide +kernel
theorem dX8_keeps_19 : decode cX8_keeps 19 = .ok (.iastore, 1) := by decide +kernel
theorem dX8_keeps_20 : decode cX8_keeps 20 = .ok (.aload_n 1, 1) := by decide +kernel
theorem dX8_keeps_21 : decode cX8_keeps 21 = .ok (.bipush 7, 2) := by decide +kernel
theorem dX8_keeps_23 : decode cX8_keeps 23 = .ok (.iload_n 2, 1) := by decide +kernel
theorem dX8_keeps_24 : decode cX8_keeps 24 = .ok (.iadd, 1) := by decide +kernel
theorem dX8_keeps_25 : decode cX8_keeps 25 = .ok (.aload_n 0, 1) := by decide +kernel
theorem dX8_keeps_26 : decode cX8_keeps 26 = .ok (.getfield 9, 3) := by decide +kernel
theorem dX8_keeps_29 : decode cX8_keeps 29 = .ok (.bipush 14, 2) := by decide +kernel
theorem dX8_keeps_31 : decode cX8_keeps 31 = .ok (.iload_n 2, 1) := by decide +kernel
theorem dX8_keeps_32 : decode cX8_keeps 32 = .ok (.iadd, 1) := by decide +kernel
theorem dX8_keeps_33 : decode cX8_keeps 33 = .ok (.iaload, 1) := by decide +kernel
theorem dX8_keeps_34 : decode cX8_keeps 34 = .ok (.iastore, 1) := by decide +kernel
theorem dX8_keeps_35 : decode cX8_keeps 35 = .ok (.iinc 2 1, 3) := by decide +kernel
theorem dX8_keeps_38 : decode cX8_keeps 38 = .ok (.goto (-36), 3) := by decide +kernel
theorem dX8_keeps_41 : decode cX8_keeps 41 = .ok (.aload_n 1, 1) := by decide +kernel
theorem dX8_keeps_42 : decode cX8_keeps 42 = .ok (.bipush 14, 2) := by decide +kernel
theorem dX8_keeps_44 : decode cX8_keeps 44 = .ok (.aload_n 0, 1) := by decide +kernel
theorem dX8_keeps_45 : decode cX8_keeps 45 = .ok (.getfield 15, 3) := by decide +kernel
theorem dX8_keeps_48 : decode cX8_keeps 48 = .ok (.iconst 0, 1) := by decide +kernel
theorem dX8_keeps_49 : decode cX8_keeps 49 = .ok (.iaload, 1) := by decide +kernel
theorem dX8_keeps_50 : decode cX8_keeps 50 = .ok (.iastore, 1) := by decide +kernel
theorem dX8_keeps_51 : decode cX8_keeps 51 = .ok (.aload_n 1, 1) := by decide +kernel
theorem dX8_keeps_52 : decode cX8_keeps 52 = .ok (.bipush 15, 2) := by decide +kernel
theorem dX8_keeps_54 : decode cX8_keeps 54 = .ok (.aload_n 0, 1) := by decide +kernel
theorem dX8_keeps_55 : decode cX8_keeps 55 = .ok (.getfield 15, 3) := by decide +kernel
theorem dX8_keeps_58 : decode cX8_keeps 58 = .ok (.iconst 1, 1) := by decide +kernel
theorem dX8_keeps_59 : decode cX8_keeps 59 = .ok (.iaload, 1) := by decide +kernel
theorem dX8_keeps_60 : decode cX8_keeps 60 = .ok (.iastore, 1) := by decide +kernel
theorem dX8_keeps_61 : decode cX8_keeps 61 = .ok (.return_, 1) := by decide +kernel
theorem dX8_laysBack_0 : decode cX8_laysBack 0 = .ok (.iconst 0, 1) := by decide +kernel
theorem dX8_laysBack_1 : decode cX8_laysBack 1 = .ok (.istore_n 2, 1) := by decide +kernel
theorem dX8_laysBack_2 : decode cX8_laysBack 2 = .ok (.iload_n 2, 1) := by decide +kernel
theorem dX8_laysBack_3 : decode cX8_laysBack 3 = .ok (.bipush 7, 2) := by decide +kernel
theorem dX8_laysBack_5 : decode cX8_laysBack 5 = .ok (.if_icmp .ge 36, 3) := by decide +kernel
theorem dX8_laysBack_8 : decode cX8_laysBack 8 = .ok (.aload_n 0, 1) := by decide +kernel
theorem dX8_laysBack_9 : decode cX8_laysBack 9 = .ok (.getfield 9, 3) := by decide +kernel
theorem dX8_laysBack_12 : decode cX8_laysBack 12 = .ok (.bipush 7, 2) := by decide +kernel
theorem dX8_laysBack_14 : decode cX8_laysBack 14 = .ok (.iload_n 2, 1) := by decide +kernel
theorem dX8_laysBack_15 : decode cX8_laysBack 15 = .ok (.iadd, 1) := by decide +kernel
theorem dX8_laysBack_16 : decode cX8_laysBack 16 = .ok (.aload_n 1, 1) := by decide +kernel
theorem dX8_laysBack_17 : decode cX8_laysBack 17 = .ok (.iload_n 2, 1) := by decide +kernel
theorem dX8_laysBack_18 : decode cX8_laysBack 18 = .ok (.iaload, 1) := by decide +kernel
theorem dX8_laysBack_19 : decode cX8_laysBack 19 = .ok (.iastore, 1) := by decide +kernel
theorem dX8_laysBack_20 : decode cX8_laysBack 20 = .ok (.aload_n 0, 1) := by decide +kernel
theorem dX8_laysBack_21 : decode cX8_laysBack 21 = .ok (.getfield 9, 3) := by decide +kernel
theorem dX8_laysBack_24 : decode cX8_laysBack 24 = .ok (.bipush 14, 2) := by decide +kernel
theorem dX8_laysBack_26 : decode cX8_laysBack 26 = .ok (.iload_n 2, 1) := by decide +kernel
theorem dX8_laysBack_27 : decode cX8_laysBack 27 = .ok (.iadd, 1) := by decide +kernel
theorem dX8_laysBack_28 : decode cX8_laysBack 28 = .ok (.aload_n 1, 1) := by decide +kernel
theorem dX8_laysBack_29 : decode cX8_laysBack 29 = .ok (.bipush 7, 2) := by decide +kernel
theorem dX8_laysBack_31 : decode cX8_laysBack 31 = .ok (.iload_n 2, 1) := by decide +kernel
theorem dX8_laysBack_32 : decode cX8_laysBack 32 = .ok (.iadd, 1) := by decide +kernel
theorem dX8_laysBack_33 : decode cX8_laysBack 33 = .ok (.iaload, 1) := by decide +kernel
theorem dX8_laysBack_34 : decode cX8_laysBack 34 = .ok (.iastore, 1) := by decide +kernel
theorem dX8_laysBack_35 : decode cX8_laysBack 35 = .ok (.iinc 2 1, 3) := by decide +kernel
theorem dX8_laysBack_38 : decode cX8_laysBack 38 = .ok (.goto (-36), 3) := by decide +kernel
theorem dX8_laysBack_41 : decode cX8_laysBack 41 = .ok (.aload_n 0, 1) := by decide +kernel
theorem dX8_laysBack_42 : decode cX8_laysBack 42 = .ok (.getfield 15, 3) := by decide +kernel
theorem dX8_laysBack_45 : decode cX8_laysBack 45 = .ok (.iconst 0, 1) := by decide +kernel
theorem dX8_laysBack_46 : decode cX8_laysBack 46 = .ok (.aload_n 1, 1) := by decide +kernel
theorem dX8_laysBack_47 : decode cX8_laysBack 47 = .ok (.bipush 14, 2) := by decide +kernel
theorem dX8_laysBack_49 : decode cX8_laysBack 49 = .ok (.iaload, 1) := by decide +kernel
theorem dX8_laysBack_50 : decode cX8_laysBack 50 = .ok (.iastore, 1) := by decide +kernel
theorem dX8_laysBack_51 : decode cX8_laysBack 51 = .ok (.aload_n 0, 1) := by decide +kernel
theorem dX8_laysBack_52 : decode cX8_laysBack 52 = .ok (.getfield 15, 3) := by decide +kernel
theorem dX8_laysBack_55 : decode cX8_laysBack 55 = .ok (.iconst 1, 1) := by decide +kernel
theorem dX8_laysBack_56 : decode cX8_laysBack 56 = .ok (.aload_n 1, 1) := by decide +kernel
theorem dX8_laysBack_57 : decode cX8_laysBack 57 = .ok (.bipush 15, 2) := by decide +kernel
theorem dX8_laysBack_59 : decode cX8_laysBack 59 = .ok (.iaload, 1) := by decide +kernel
theorem dX8_laysBack_60 : decode cX8_laysBack 60 = .ok (.iastore, 1) := by decide +kernel
theorem dX8_laysBack_61 : decode cX8_laysBack 61 = .ok (.return_, 1) := by decide +kernel
theorem dX8_allOwed_0 : decode cX8_allOwed 0 = .ok (.iconst 0, 1) := by decide +kernel
theorem dX8_allOwed_1 : decode cX8_allOwed 1 = .ok (.istore_n 1, 1) := by decide +kernel
theorem dX8_allOwed_2 : decode cX8_allOwed 2 = .ok (.iconst 0, 1) := by decide +kernel
theorem dX8_allOwed_3 : decode cX8_allOwed 3 = .ok (.istore_n 2, 1) := by decide +kernel
theorem dX8_allOwed_4 : decode cX8_allOwed 4 = .ok (.iload_n 2, 1) := by decide +kernel
theorem dX8_allOwed_5 : decode cX8_allOwed 5 = .ok (.aload_n 0, 1) := by decide +kernel
theorem dX8_allOwed_6 : decode cX8_allOwed 6 = .ok (.getfield 94, 3) := by decide +kernel
theorem dX8_allOwed_9 : decode cX8_allOwed 9 = .ok (.if_icmp .ge 21, 3) := by decide +kernel
theorem dX8_allOwed_12 : decode cX8_allOwed 12 = .ok (.iload_n 1, 1) := by decide +kernel
theorem dX8_allOwed_13 : decode cX8_allOwed 13 = .ok (.aload_n 0, 1) := by decide +kernel
theorem dX8_allOwed_14 : decode cX8_allOwed 14 = .ok (.getfield 9, 3) := by decide +kernel
theorem dX8_allOwed_17 : decode cX8_allOwed 17 = .ok (.bipush 7, 2) := by decide +kernel
theorem dX8_allOwed_19 : decode cX8_allOwed 19 = .ok (.iload_n 2, 1) := by decide +kernel
theorem dX8_allOwed_20 : decode cX8_allOwed 20 = .ok (.iadd, 1) := by decide +kernel
theorem dX8_allOwed_21 : decode cX8_allOwed 21 = .ok (.iaload, 1) := by decide +kernel
theorem dX8_allOwed_22 : decode cX8_allOwed 22 = .ok (.iadd, 1) := by decide +kernel
theorem dX8_allOwed_23 : decode cX8_allOwed 23 = .ok (.istore_n 1, 1) := by decide +kernel
theorem dX8_allOwed_24 : decode cX8_allOwed 24 = .ok (.iinc 2 1, 3) := by decide +kernel
theorem dX8_allOwed_27 : decode cX8_allOwed 27 = .ok (.goto (-23), 3) := by decide +kernel
theorem dX8_allOwed_30 : decode cX8_allOwed 30 = .ok (.iload_n 1, 1) := by decide +kernel
theorem dX8_allOwed_31 : decode cX8_allOwed 31 = .ok (.ireturn, 1) := by decide +kernel
theorem dX8_noBytes_0 : decode cX8_noBytes 0 = .ok (.aload_n 0, 1) := by decide +kernel
theorem dX8_noBytes_1 : decode cX8_noBytes 1 = .ok (.getfield 69, 3) := by decide +kernel
theorem dX8_noBytes_4 : decode cX8_noBytes 4 = .ok (.iload_n 1, 1) := by decide +kernel
theorem dX8_noBytes_5 : decode cX8_noBytes 5 = .ok (.iaload, 1) := by decide +kernel
theorem dX8_noBytes_6 : decode cX8_noBytes 6 = .ok (.iconst (-1), 1) := by decide +kernel
theorem dX8_noBytes_7 : decode cX8_noBytes 7 = .ok (.if_icmp .ne 8, 3) := by decide +kernel
theorem dX8_noBytes_10 : decode cX8_noBytes 10 = .ok (.bipush (-11), 2) := by decide +kernel
theorem dX8_noBytes_12 : decode cX8_noBytes 12 = .ok (.goto 18, 3) := by decide +kernel
theorem dX8_noBytes_15 : decode cX8_noBytes 15 = .ok (.aload_n 0, 1) := by decide +kernel
theorem dX8_noBytes_16 : decode cX8_noBytes 16 = .ok (.getfield 69, 3) := by decide +kernel
theorem dX8_noBytes_19 : decode cX8_noBytes 19 = .ok (.iload_n 1, 1) := by decide +kernel
theorem dX8_noBytes_20 : decode cX8_noBytes 20 = .ok (.iaload, 1) := by decide +kernel
theorem dX8_noBytes_21 : decode cX8_noBytes 21 = .ok (.ifCond .eq 8, 3) := by decide +kernel
theorem dX8_noBytes_24 : decode cX8_noBytes 24 = .ok (.bipush (-12), 2) := by decide +kernel
theorem dX8_noBytes_26 : decode cX8_noBytes 26 = .ok (.goto 4, 3) := by decide +kernel
theorem dX8_noBytes_29 : decode cX8_noBytes 29 = .ok (.iconst 0, 1) := by decide +kernel
theorem dX8_noBytes_30 : decode cX8_noBytes 30 = .ok (.ireturn, 1) := by decide +kernel
theorem dX8_daysOf_0 : decode cX8_daysOf 0 = .ok (.iconst 0, 1) := by decide +kernel
theorem dX8_daysOf_1 : decode cX8_daysOf 1 = .ok (.istore_n 2, 1) := by decide +kernel
theorem dX8_daysOf_2 : decode cX8_daysOf 2 = .ok (.iload_n 2, 1) := by decide +kernel
theorem dX8_daysOf_3 : decode cX8_daysOf 3 = .ok (.aload_n 0, 1) := by decide +kernel
theorem dX8_daysOf_4 : decode cX8_daysOf 4 = .ok (.getfield 72, 3) := by decide +kernel
theorem dX8_daysOf_7 : decode cX8_daysOf 7 = .ok (.iload_n 1, 1) := by decide +kernel
theorem dX8_daysOf_8 : decode cX8_daysOf 8 = .ok (.iaload, 1) := by decide +kernel
theorem dX8_daysOf_9 : decode cX8_daysOf 9 = .ok (.if_icmp .ge 39, 3) := by decide +kernel
theorem dX8_daysOf_12 : decode cX8_daysOf 12 = .ok (.iload_n 2, 1) := by decide +kernel
theorem dX8_daysOf_13 : decode cX8_daysOf 13 = .ok (.bipush 28, 2) := by decide +kernel
theorem dX8_daysOf_15 : decode cX8_daysOf 15 = .ok (.if_icmp .ge 33, 3) := by decide +kernel
theorem dX8_daysOf_18 : decode cX8_daysOf 18 = .ok (.aload_n 0, 1) := by decide +kernel
theorem dX8_daysOf_19 : decode cX8_daysOf 19 = .ok (.aload_n 0, 1) := by decide +kernel
theorem dX8_daysOf_20 : decode cX8_daysOf 20 = .ok (.iload_n 1, 1) := by decide +kernel
theorem dX8_daysOf_21 : decode cX8_daysOf 21 = .ok (.iload_n 2, 1) := by decide +kernel
theorem dX8_daysOf_22 : decode cX8_daysOf 22 = .ok (.invokevirtual 112, 3) := by decide +kernel
theorem dX8_daysOf_25 : decode cX8_daysOf 25 = .ok (.invokevirtual 116, 3) := by decide +kernel
theorem dX8_daysOf_28 : decode cX8_daysOf 28 = .ok (.ifCond .ne 14, 3) := by decide +kernel
theorem dX8_daysOf_31 : decode cX8_daysOf 31 = .ok (.aload_n 0, 1) := by decide +kernel
theorem dX8_daysOf_32 : decode cX8_daysOf 32 = .ok (.iload_n 1, 1) := by decide +kernel
theorem dX8_daysOf_33 : decode cX8_daysOf 33 = .ok (.iload_n 2, 1) := by decide +kernel
theorem dX8_daysOf_34 : decode cX8_daysOf 34 = .ok (.invokevirtual 112, 3) := by decide +kernel
theorem dX8_daysOf_37 : decode cX8_daysOf 37 = .ok (.bipush 7, 2) := by decide +kernel
theorem dX8_daysOf_39 : decode cX8_daysOf 39 = .ok (.if_icmp .ne 9, 3) := by decide +kernel
theorem dX8_daysOf_42 : decode cX8_daysOf 42 = .ok (.iinc 2 1, 3) := by decide +kernel
theorem dX8_daysOf_45 : decode cX8_daysOf 45 = .ok (.goto (-43), 3) := by decide +kernel
theorem dX8_daysOf_48 : decode cX8_daysOf 48 = .ok (.iload_n 2, 1) := by decide +kernel
theorem dX8_daysOf_49 : decode cX8_daysOf 49 = .ok (.ireturn, 1) := by decide +kernel
theorem dX8_goes_0 : decode cX8_goes 0 = .ok (.iconst 0, 1) := by decide +kernel
theorem dX8_goes_1 : decode cX8_goes 1 = .ok (.istore_n 3, 1) := by decide +kernel
theorem dX8_goes_2 : decode cX8_goes 2 = .ok (.iload_n 2, 1) := by decide +kernel
theorem dX8_goes_3 : decode cX8_goes 3 = .ok (.aload_n 0, 1) := by decide +kernel
theorem dX8_goes_4 : decode cX8_goes 4 = .ok (.iload_n 1, 1) := by decide +kernel
theorem dX8_goes_5 : decode cX8_goes 5 = .ok (.invokevirtual 231, 3) := by decide +kernel
theorem dX8_goes_8 : decode cX8_goes 8 = .ok (.invokestatic 220, 3) := by decide +kernel
theorem dX8_goes_11 : decode cX8_goes 11 = .ok (.istore 4, 2) := by decide +kernel
theorem dX8_goes_13 : decode cX8_goes 13 = .ok (.iconst 0, 1) := by decide +kernel
theorem dX8_goes_14 : decode cX8_goes 14 = .ok (.istore 5, 2) := by decide +kernel
theorem dX8_goes_16 : decode cX8_goes 16 = .ok (.iload 5, 2) := by decide +kernel
theorem dX8_goes_18 : decode cX8_goes 18 = .ok (.iload 4, 2) := by decide +kernel
theorem dX8_goes_20 : decode cX8_goes 20 = .ok (.if_icmp .ge 23, 3) := by decide +kernel
theorem dX8_goes_23 : decode cX8_goes 23 = .ok (.iload_n 3, 1) := by decide +kernel
theorem dX8_goes_24 : decode cX8_goes 24 = .ok (.aload_n 0, 1) := by decide +kernel
theorem dX8_goes_25 : decode cX8_goes 25 = .ok (.aload_n 0, 1) := by decide +kernel
theorem dX8_goes_26 : decode cX8_goes 26 = .ok (.iload_n 1, 1) := by decide +kernel
theorem dX8_goes_27 : decode cX8_goes 27 = .ok (.iload 5, 2) := by decide +kernel
theorem dX8_goes_29 : decode cX8_goes 29 = .ok (.invokevirtual 112, 3) := by decide +kernel
theorem dX8_goes_32 : decode cX8_goes 32 = .ok (.invokevirtual 234, 3) := by decide +kernel
theorem dX8_goes_35 : decode cX8_goes 35 = .ok (.iadd, 1) := by decide +kernel
theorem dX8_goes_36 : decode cX8_goes 36 = .ok (.istore_n 3, 1) := by decide +kernel
theorem dX8_goes_37 : decode cX8_goes 37 = .ok (.iinc 5 1, 3) := by decide +kernel
theorem dX8_goes_40 : decode cX8_goes 40 = .ok (.goto (-24), 3) := by decide +kernel
theorem dX8_goes_43 : decode cX8_goes 43 = .ok (.iload_n 3, 1) := by decide +kernel
theorem dX8_goes_44 : decode cX8_goes 44 = .ok (.ireturn, 1) := by decide +kernel
theorem dX8_later_0 : decode cX8_later 0 = .ok (.iload_n 1, 1) := by decide +kernel
theorem dX8_later_1 : decode cX8_later 1 = .ok (.invokestatic 106, 3) := by decide +kernel
theorem dX8_later_4 : decode cX8_later 4 = .ok (.ifCond .eq 44, 3) := by decide +kernel
theorem dX8_later_7 : decode cX8_later 7 = .ok (.iload_n 2, 1) := by decide +kernel
theorem dX8_later_8 : decode cX8_later 8 = .ok (.iconst 0, 1) := by decide +kernel
theorem dX8_later_9 : decode cX8_later 9 = .ok (.bipush 28, 2) := by decide +kernel
theorem dX8_later_11 : decode cX8_later 11 = .ok (.invokestatic 98, 3) := by decide +kernel
theorem dX8_later_14 : decode cX8_later 14 = .ok (.ifCond .eq 34, 3) := by decide +kernel
theorem dX8_later_17 : decode cX8_later 17 = .ok (.iload 4, 2) := by decide +kernel
theorem dX8_later_19 : decode cX8_later 19 = .ok (.iconst 0, 1) := by decide +kernel
theorem dX8_later_20 : decode cX8_later 20 = .ok (.iconst 4, 1) := by decide +kernel
theorem dX8_later_21 : decode cX8_later 21 = .ok (.invokestatic 98, 3) := by decide +kernel
theorem dX8_later_24 : decode cX8_later 24 = .ok (.ifCond .eq 24, 3) := by decide +kernel
theorem dX8_later_27 : decode cX8_later 27 = .ok (.iload 4, 2) := by decide +kernel
theorem dX8_later_29 : decode cX8_later 29 = .ok (.iconst 2, 1) := by decide +kernel
theorem dX8_later_30 : decode cX8_later 30 = .ok (.if_icmp .ge 14, 3) := by decide +kernel
theorem dX8_later_33 : decode cX8_later 33 = .ok (.aload_n 0, 1) := by decide +kernel
theorem dX8_later_34 : decode cX8_later 34 = .ok (.iload_n 3, 1) := by decide +kernel
theorem dX8_later_35 : decode cX8_later 35 = .ok (.invokevirtual 116, 3) := by decide +kernel
theorem dX8_later_38 : decode cX8_later 38 = .ok (.ifCond .eq 10, 3) := by decide +kernel
theorem dX8_later_41 : decode cX8_later 41 = .ok (.goto 9, 3) := by decide +kernel
theorem dX8_later_44 : decode cX8_later 44 = .ok (.iload_n 3, 1) := by decide +kernel
theorem dX8_later_45 : decode cX8_later 45 = .ok (.ifCond .eq 5, 3) := by decide +kernel
theorem dX8_later_48 : decode cX8_later 48 = .ok (.iconst (-1), 1) := by decide +kernel
theorem dX8_later_49 : decode cX8_later 49 = .ok (.ireturn, 1) := by decide +kernel
theorem dX8_later_50 : decode cX8_later 50 = .ok (.aload_n 0, 1) := by decide +kernel
theorem dX8_later_51 : decode cX8_later 51 = .ok (.iload_n 1, 1) := by decide +kernel
theorem dX8_later_52 : decode cX8_later 52 = .ok (.invokevirtual 237, 3) := by decide +kernel
theorem dX8_later_55 : decode cX8_later 55 = .ok (.istore 5, 2) := by decide +kernel
theorem dX8_later_57 : decode cX8_later 57 = .ok (.iload 5, 2) := by decide +kernel
theorem dX8_later_59 : decode cX8_later 59 = .ok (.ifCond .ge 6, 3) := by decide +kernel
theorem dX8_later_62 : decode cX8_later 62 = .ok (.iload 5, 2) := by decide +kernel
theorem dX8_later_64 : decode cX8_later 64 = .ok (.ireturn, 1) := by decide +kernel
theorem dX8_later_65 : decode cX8_later 65 = .ok (.aload_n 0, 1) := by decide +kernel
theorem dX8_later_66 : decode cX8_later 66 = .ok (.aload_n 0, 1) := by decide +kernel
theorem dX8_later_67 : decode cX8_later 67 = .ok (.getfield 79, 3) := by decide +kernel
theorem dX8_later_70 : decode cX8_later 70 = .ok (.invokevirtual 240, 3) := by decide +kernel
theorem dX8_later_73 : decode cX8_later 73 = .ok (.aload_n 0, 1) := by decide +kernel
theorem dX8_later_74 : decode cX8_later 74 = .ok (.iload_n 1, 1) := by decide +kernel
theorem dX8_later_75 : decode cX8_later 75 = .ok (.iload_n 2, 1) := by decide +kernel
theorem dX8_later_76 : decode cX8_later 76 = .ok (.invokevirtual 244, 3) := by decide +kernel
theorem dX8_later_79 : decode cX8_later 79 = .ok (.istore 6, 2) := by decide +kernel
theorem dX8_later_81 : decode cX8_later 81 = .ok (.iload 4, 2) := by decide +kernel
theorem dX8_later_83 : decode cX8_later 83 = .ok (.iconst 2, 1) := by decide +kernel
theorem dX8_later_84 : decode cX8_later 84 = .ok (.if_icmp .ne 8, 3) := by decide +kernel
theorem dX8_later_87 : decode cX8_later 87 = .ok (.iload 6, 2) := by decide +kernel
theorem dX8_later_89 : decode cX8_later 89 = .ok (.goto 46, 3) := by decide +kernel
theorem dX8_later_92 : decode cX8_later 92 = .ok (.iload 4, 2) := by decide +kernel
theorem dX8_later_94 : decode cX8_later 94 = .ok (.iconst 3, 1) := by decide +kernel
theorem dX8_later_95 : decode cX8_later 95 = .ok (.if_icmp .ne 12, 3) := by decide +kernel
theorem dX8_later_98 : decode cX8_later 98 = .ok (.aload_n 0, 1) := by decide +kernel
theorem dX8_later_99 : decode cX8_later 99 = .ok (.getfield 15, 3) := by decide +kernel
theorem dX8_later_102 : decode cX8_later 102 = .ok (.iconst 0, 1) := by decide +kernel
theorem dX8_later_103 : decode cX8_later 103 = .ok (.iaload, 1) := by decide +kernel
theorem dX8_later_104 : decode cX8_later 104 = .ok (.goto 31, 3) := by decide +kernel
theorem dX8_later_107 : decode cX8_later 107 = .ok (.iload 4, 2) := by decide +kernel
theorem dX8_later_109 : decode cX8_later 109 = .ok (.iconst 4, 1) := by decide +kernel
theorem dX8_later_110 : decode cX8_later 110 = .ok (.if_icmp .ne 10, 3) := by decide +kernel
theorem dX8_later_113 : decode cX8_later 113 = .ok (.aload_n 0, 1) := by decide +kernel
theorem dX8_later_114 : decode cX8_later 114 = .ok (.invokevirtual 247, 3) := by decide +kernel
theorem dX8_later_117 : decode cX8_later 117 = .ok (.goto 18, 3) := by decide +kernel
theorem dX8_later_120 : decode cX8_later 120 = .ok (.aload_n 0, 1) := by decide +kernel
theorem dX8_later_121 : decode cX8_later 121 = .ok (.getfield 9, 3) := by decide +kernel
theorem dX8_later_124 : decode cX8_later 124 = .ok (.bipush 7, 2) := by decide +kernel
theorem dX8_later_126 : decode cX8_later 126 = .ok (.bipush 7, 2) := by decide +kernel
theorem dX8_later_128 : decode cX8_later 128 = .ok (.iload 4, 2) := by decide +kernel
theorem dX8_later_130 : decode cX8_later 130 = .ok (.imul, 1) := by decide +kernel
theorem dX8_later_131 : decode cX8_later 131 = .ok (.iadd, 1) := by decide +kernel
theorem dX8_later_132 : decode cX8_later 132 = .ok (.iload_n 3, 1) := by decide +kernel
theorem dX8_later_133 : decode cX8_later 133 = .ok (.iadd, 1) := by decide +kernel
theorem dX8_later_134 : decode cX8_later 134 = .ok (.iaload, 1) := by decide +kernel
theorem dX8_later_135 : decode cX8_later 135 = .ok (.istore 7, 2) := by decide +kernel
theorem dX8_later_137 : decode cX8_later 137 = .ok (.aload_n 0, 1) := by decide +kernel
theorem dX8_later_138 : decode cX8_later 138 = .ok (.aload_n 0, 1) := by decide +kernel
theorem dX8_later_139 : decode cX8_later 139 = .ok (.getfield 79, 3) := by decide +kernel
theorem dX8_later_142 : decode cX8_later 142 = .ok (.invokevirtual 250, 3) := by decide +kernel
theorem dX8_later_145 : decode cX8_later 145 = .ok (.iload 7, 2) := by decide +kernel
theorem dX8_later_147 : decode cX8_later 147 = .ok (.ireturn, 1) := by decide +kernel
theorem dX8_deep_0 : decode cX8_deep 0 = .ok (.iload_n 1, 1) := by decide +kernel
theorem dX8_deep_1 : decode cX8_deep 1 = .ok (.invokestatic 106, 3) := by decide +kernel
theorem dX8_deep_4 : decode cX8_deep 4 = .ok (.ifCond .eq 21, 3) := by decide +kernel
theorem dX8_deep_7 : decode cX8_deep 7 = .ok (.aload_n 0, 1) := by decide +kernel
theorem dX8_deep_8 : decode cX8_deep 8 = .ok (.iload_n 2, 1) := by decide +kernel
theorem dX8_deep_9 : decode cX8_deep 9 = .ok (.invokevirtual 116, 3) := by decide +kernel
theorem dX8_deep_12 : decode cX8_deep 12 = .ok (.ifCond .eq 13, 3) := by decide +kernel
theorem dX8_deep_15 : decode cX8_deep 15 = .ok (.iload_n 3, 1) := by decide +kernel
theorem dX8_deep_16 : decode cX8_deep 16 = .ok (.iconst 0, 1) := by decide +kernel
theorem dX8_deep_17 : decode cX8_deep 17 = .ok (.bipush 99, 2) := by decide +kernel
theorem dX8_deep_19 : decode cX8_deep 19 = .ok (.invokestatic 98, 3) := by decide +kernel
theorem dX8_deep_22 : decode cX8_deep 22 = .ok (.ifCond .ne 5, 3) := by decide +kernel
theorem dX8_deep_25 : decode cX8_deep 25 = .ok (.iconst (-1), 1) := by decide +kernel
theorem dX8_deep_26 : decode cX8_deep 26 = .ok (.ireturn, 1) := by decide +kernel
theorem dX8_deep_27 : decode cX8_deep 27 = .ok (.aload_n 0, 1) := by decide +kernel
theorem dX8_deep_28 : decode cX8_deep 28 = .ok (.iload_n 1, 1) := by decide +kernel
theorem dX8_deep_29 : decode cX8_deep 29 = .ok (.invokevirtual 237, 3) := by decide +kernel
theorem dX8_deep_32 : decode cX8_deep 32 = .ok (.istore 4, 2) := by decide +kernel
theorem dX8_deep_34 : decode cX8_deep 34 = .ok (.iload 4, 2) := by decide +kernel
theorem dX8_deep_36 : decode cX8_deep 36 = .ok (.ifCond .ge 6, 3) := by decide +kernel
theorem dX8_deep_39 : decode cX8_deep 39 = .ok (.iload 4, 2) := by decide +kernel
theorem dX8_deep_41 : decode cX8_deep 41 = .ok (.ireturn, 1) := by decide +kernel
theorem dX8_deep_42 : decode cX8_deep 42 = .ok (.aload_n 0, 1) := by decide +kernel
theorem dX8_deep_43 : decode cX8_deep 43 = .ok (.aload_n 0, 1) := by decide +kernel
theorem dX8_deep_44 : decode cX8_deep 44 = .ok (.getfield 79, 3) := by decide +kernel
theorem dX8_deep_47 : decode cX8_deep 47 = .ok (.invokevirtual 240, 3) := by decide +kernel
theorem dX8_deep_50 : decode cX8_deep 50 = .ok (.aload_n 0, 1) := by decide +kernel
theorem dX8_deep_51 : decode cX8_deep 51 = .ok (.iload_n 1, 1) := by decide +kernel
theorem dX8_deep_52 : decode cX8_deep 52 = .ok (.invokevirtual 231, 3) := by decide +kernel
theorem dX8_deep_55 : decode cX8_deep 55 = .ok (.istore 5, 2) := by decide +kernel
theorem dX8_deep_57 : decode cX8_deep 57 = .ok (.bipush (-2), 2) := by decide +kernel
theorem dX8_deep_59 : decode cX8_deep 59 = .ok (.istore 6, 2) := by decide +kernel
theorem dX8_deep_61 : decode cX8_deep 61 = .ok (.iconst 0, 1) := by decide +kernel
theorem dX8_deep_62 : decode cX8_deep 62 = .ok (.istore 7, 2) := by decide +kernel
theorem dX8_deep_64 : decode cX8_deep 64 = .ok (.iload 7, 2) := by decide +kernel
theorem dX8_deep_66 : decode cX8_deep 66 = .ok (.iload 5, 2) := by decide +kernel
theorem dX8_deep_68 : decode cX8_deep 68 = .ok (.if_icmp .gt 52, 3) := by decide +kernel
theorem dX8_deep_71 : decode cX8_deep 71 = .ok (.iload 6, 2) := by decide +kernel
theorem dX8_deep_73 : decode cX8_deep 73 = .ok (.bipush (-2), 2) := by decide +kernel
theorem dX8_deep_75 : decode cX8_deep 75 = .ok (.if_icmp .ne 45, 3) := by decide +kernel
theorem dX8_deep_78 : decode cX8_deep 78 = .ok (.iload 7, 2) := by decide +kernel
theorem dX8_deep_80 : decode cX8_deep 80 = .ok (.ifCond .le 17, 3) := by decide +kernel
theorem dX8_deep_83 : decode cX8_deep 83 = .ok (.aload_n 0, 1) := by decide +kernel
theorem dX8_deep_84 : decode cX8_deep 84 = .ok (.aload_n 0, 1) := by decide +kernel
theorem dX8_deep_85 : decode cX8_deep 85 = .ok (.iload_n 1, 1) := by decide +kernel
theorem dX8_deep_86 : decode cX8_deep 86 = .ok (.iload 7, 2) := by decide +kernel
theorem dX8_deep_88 : decode cX8_deep 88 = .ok (.iconst 1, 1) := by decide +kernel
theorem dX8_deep_89 : decode cX8_deep 89 = .ok (.isub, 1) := by decide +kernel
theorem dX8_deep_90 : decode cX8_deep 90 = .ok (.invokevirtual 112, 3) := by decide +kernel
theorem dX8_deep_93 : decode cX8_deep 93 = .ok (.invokevirtual 234, 3) := by decide +kernel
theorem dX8_deep_96 : decode cX8_deep 96 = .ok (.pop, 1) := by decide +kernel
theorem dX8_deep_97 : decode cX8_deep 97 = .ok (.aload_n 0, 1) := by decide +kernel
theorem dX8_deep_98 : decode cX8_deep 98 = .ok (.getfield 9, 3) := by decide +kernel
theorem dX8_deep_101 : decode cX8_deep 101 = .ok (.bipush 7, 2) := by decide +kernel
theorem dX8_deep_103 : decode cX8_deep 103 = .ok (.iload_n 2, 1) := by decide +kernel
theorem dX8_deep_104 : decode cX8_deep 104 = .ok (.iadd, 1) := by decide +kernel
theorem dX8_deep_105 : decode cX8_deep 105 = .ok (.iaload, 1) := by decide +kernel
theorem dX8_deep_106 : decode cX8_deep 106 = .ok (.iload_n 3, 1) := by decide +kernel
theorem dX8_deep_107 : decode cX8_deep 107 = .ok (.if_icmp .lt 7, 3) := by decide +kernel
theorem dX8_deep_110 : decode cX8_deep 110 = .ok (.iload 7, 2) := by decide +kernel
theorem dX8_deep_112 : decode cX8_deep 112 = .ok (.istore 6, 2) := by decide +kernel
theorem dX8_deep_114 : decode cX8_deep 114 = .ok (.iinc 7 1, 3) := by decide +kernel
theorem dX8_deep_117 : decode cX8_deep 117 = .ok (.goto (-53), 3) := by decide +kernel
theorem dX8_deep_120 : decode cX8_deep 120 = .ok (.aload_n 0, 1) := by decide +kernel
theorem dX8_deep_121 : decode cX8_deep 121 = .ok (.aload_n 0, 1) := by decide +kernel
theorem dX8_deep_122 : decode cX8_deep 122 = .ok (.getfield 79, 3) := by decide +kernel
theorem dX8_deep_125 : decode cX8_deep 125 = .ok (.invokevirtual 250, 3) := by decide +kernel
theorem dX8_deep_128 : decode cX8_deep 128 = .ok (.iload 6, 2) := by decide +kernel
theorem dX8_deep_130 : decode cX8_deep 130 = .ok (.ireturn, 1) := by decide +kernel
